def SI (σ : SS) (K : Kt) (h ρ : Ro) (g : Gl) (t : Int) (a : Ac) : Prop := StRep σ K ∧ RowRep σ 13 K h ∧ RowRep σ 21 K ρ ∧ GlRep σ g t ∧ AcC σ K h a
theorem AcC.keep {σ σ1 : SS} {K : Kt} {h : Ro} {a : Ac} (q : AcC σ K h a) (h1 : σ1 19 = σ 19) (h2 : σ1 20 = σ 20) : AcC σ1 K h a := by
  unfold AcC RowAt at q ⊢
  rw [h1, h2]
  exact q
theorem GlRep.keep {σ σ1 : SS} {g : Gl} {t : Int} (q : GlRep σ g t) (h1 : ∀ i, 8 ≤ i → σ1 19 i = σ 19 i) : GlRep σ1 g t := by
  unfold GlRep at q ⊢
  rw [h1 8 (by omega), h1 9 (by omega), h1 10 (by omega), h1 11 (by omega), h1 12 (by omega)]
  exact q
theorem keep39_spec {σ : SS} {ρ : Ro} {l : List Ro} (N : Nat) (h7 : σ 19 7 = wv oc (bestOf oc l)) (h6 : σ 21 6 = J (oc ρ)) : ∃ σ1, fX2_keep_39 N σ = some σ1 ∧ σ1 19 7 = wv oc (bestOf oc (l ++ [ρ])) ∧ (∀ i, i ≠ 7 → σ1 19 i = σ 19 i) ∧ Keep 19 19 σ σ1 := by
  have hb := oc_bd ρ
  have set : ∃ σ1, fX2_keep_61 N σ = some σ1 ∧ σ1 19 7 = J (oc ρ) ∧ (∀ i, i ≠ 7 → σ1 19 i = σ 19 i) ∧ Keep 19 19 σ σ1 := by
    rw [fX2_keep_61]
    simp only [sg, fX2_keep_72]
    refine ⟨_, rfl, ?_, fun i hi => ?_, fun k hk => ?_⟩
    · rw [stp_s, upd_s, h6]
    · rw [stp_s, upd_n hi]
    · rw [stp_n (by omega)]
  rw [fX2_keep_39, h7, h6, bestOf_app]
  cases ho : bestOf oc l with
  | none =>
    rw [if_pos (by rfl)]
    exact set
  | some b =>
    have hb2 := oc_bd b
    rw [if_neg (by show ¬ J (oc b) = J (-1); rw [J_eq (by omega) (by omega) (by omega) (by omega)]; omega)]
    show ∃ σ1, (if J (oc b) ≤ J (oc ρ) then _ else _) = some σ1 ∧ _
    have hle := J_le (a := oc b) (b := oc ρ) (by omega) (by omega) (by omega) (by omega)
    by_cases c : oc b ≤ oc ρ
    · rw [if_pos (hle.mpr c)]
      refine ⟨σ, rfl, ?_, fun _ _ => rfl, Keep.rfl⟩
      rw [h7, ho]
      show wv oc (some b) = wv oc (if oc ρ < oc b then some ρ else some b)
      rw [if_neg (by omega)]
    · rw [if_neg (fun q => c (hle.mp q))]
      have e : pick oc (some b) ρ = some ρ := by
        show (if oc ρ < oc b then some ρ else some b) = some ρ
        rw [if_pos (by omega)]
      rw [e]
      exact set
theorem keep_spec {σ : SS} {K : Kt} {h ρ : Ro} {a : Ac} (N : Nat) (hA : AcC σ K h a) (hR : RowRep σ 21 K ρ) : ∃ σ1, fX2_keep N (J (mvs K h ρ)) σ = some σ1 ∧ AcC σ1 K h (a.1, a.2.1, a.2.2 ++ [ρ]) ∧ (∀ i, 8 ≤ i → σ1 19 i = σ 19 i) ∧ Keep 19 20 σ σ1 := by
  obtain ⟨a1, a2, a3, a4, a5, a6⟩ := hA
  have hb := mvs_bd (K := K) (h := h) (ρ := ρ)
  -- the new one is kept as the best
  have new : bestOf (mvs K h) (a.2.2 ++ [ρ]) = some ρ → ∃ σ1, fX2_keep_16 N (J (mvs K h ρ)) σ = some σ1 ∧ AcC σ1 K h (a.1, a.2.1, a.2.2 ++ [ρ]) ∧ (∀ i, 8 ≤ i → σ1 19 i = σ 19 i) ∧ Keep 19 20 σ σ1 := by
    intro hn
    rw [fX2_keep_16]
    simp only [sg]
    obtain ⟨σ1, q1, q2, q3, q4⟩ := keep39_spec (ρ := ρ) (l := a.2.2) N (σ := stp (stp σ 19 (upd (σ 19) 6 (J (mvs K h ρ)))) 20 (va_cpy (stp σ 19 (upd (σ 19) 6 (J (mvs K h ρ))) 22) (stp σ 19 (upd (σ 19) 6 (J (mvs K h ρ))) 20) 0 0 8)) (by simp (disch := omega) only [stp_s, stp_n, upd_n]; exact a5) (by simp (disch := omega) only [stp_n]; exact hR.2.2)
    refine ⟨σ1, q1, ⟨?_, ?_, a3, ?_, q2, ?_⟩, fun i hi => ?_, fun k hk => ?_⟩
    · rw [q3 4 (by omega)]; simp (disch := omega) only [stp_s, stp_n, upd_n]; exact a1
    · rw [q3 5 (by omega)]; simp (disch := omega) only [stp_s, stp_n, upd_n]; exact a2
    · rw [q3 6 (by omega), hn]; simp (disch := omega) only [stp_s, stp_n, upd_s]; rfl
    · intro b hb2
      rw [hn] at hb2
      cases hb2
      intro w hw
      rw [q4 20 (by omega)]
      simp (disch := omega) only [stp_s, stp_n, cpy_in]
      exact hR.1 w (Or.inr ⟨rfl, hw⟩)
    · rw [q3 i (by omega)]; simp (disch := omega) only [stp_s, stp_n, upd_n]
    · rw [q4 k (by omega)]; simp (disch := omega) only [stp_n]
  rw [fX2_keep, a4]
  cases ho : bestOf (mvs K h) a.2.2 with
  | none =>
    rw [if_pos (by rfl)]
    exact new (by rw [bestOf_app, ho]; rfl)
  | some b =>
    have hb2 := mvs_bd (K := K) (h := h) (ρ := b)
    rw [if_neg (by show ¬ J (mvs K h b) = J (-1); rw [J_eq (by omega) (by omega) (by omega) (by omega)]; omega)]
    show ∃ σ1, (if J (mvs K h b) ≤ J (mvs K h ρ) then _ else _) = some σ1 ∧ _
    have hle := J_le (a := mvs K h b) (b := mvs K h ρ) (by omega) (by omega) (by omega) (by omega)
    by_cases c : mvs K h b ≤ mvs K h ρ
    · rw [if_pos (hle.mpr c)]
      have e : bestOf (mvs K h) (a.2.2 ++ [ρ]) = some b := by
        rw [bestOf_app, ho]
        show (if mvs K h ρ < mvs K h b then some ρ else some b) = some b
        rw [if_neg (by omega)]
      obtain ⟨σ1, q1, q2, q3, q4⟩ := keep39_spec (ρ := ρ) N a5 hR.2.2
      refine ⟨σ1, q1, ⟨?_, ?_, a3, ?_, q2, ?_⟩, fun i hi => q3 i (by omega), q4.mono (by omega) (by omega)⟩
      · rw [q3 4 (by omega)]; exact a1
      · rw [q3 5 (by omega)]; exact a2
      · rw [q3 6 (by omega), a4, ho, e]
      · intro b2 hb3
        rw [e] at hb3
        cases hb3
        intro w hw
        rw [q4 20 (by omega)]
        exact a6 b ho w hw
    · rw [if_neg (fun q => c (hle.mp q))]
      refine new ?_
      rw [bestOf_app, ho]
      show (if mvs K h ρ < mvs K h b then some ρ else some b) = some ρ
      rw [if_pos (by omega)]
theorem tk_tw {K : Kt} {ρ : Ro} {w m : Nat} (hK : KOk K) (hρ : RoOk K ρ) (hT : TwApart K ρ) (hw : w < kW K) (hn : ρ w = none) (h : tk K ρ w m (kA K w) (kB K w) (kd K w) (kg K w) (blk K w) = true) : TwApart K (rset ρ w (some m)) := by
  have key : kd K w = 1 → ∀ v, ρ v = some m → twin K v w = true → False := by
    intro h1 v hv htw
    unfold tk at h
    simp only [Bool.and_eq_true, Bool.or_eq_true, Bool.not_eq_true', beq_eq_false_iff_ne] at h
    have h3 := h.1.2
    have h4 : ht K ρ m (kg K w).toNat = false := by
      rcases h3 with h3 | h3
      · exact absurd h1 h3
      · exact h3
    have h5 := (ht_and hK hw h1).mp h4 v (by have := (hρ v m hv).1; have := hK.2.1; omega) hv
    have h6 := twin_true.mp htw
    exact h5 h6.1 h6.2.2
  intro v u x hvu htw h1 h2
  by_cases e1 : v = w
  · subst e1
    have e2 : ¬ u = v := fun q => hvu q.symm
    rw [rset_self] at h1
    simp only [rset, if_neg e2] at h2
    have hx : m = x := Option.some.inj h1
    subst hx
    have h6 := twin_true.mp htw
    exact key h6.1 u h2 (twin_true.mpr ⟨h6.2.1, h6.1, h6.2.2.symm⟩)
  · simp only [rset, if_neg e1] at h1
    by_cases e2 : u = w
    · subst e2
      rw [rset_self] at h2
      have hx : m = x := Option.some.inj h2
      subst hx
      have h6 := twin_true.mp htw
      exact key h6.2.1 v h1 htw
    · simp only [rset, if_neg e2] at h2
      exact hT v u x hvu htw h1 h2
theorem rset_ok {K : Kt} {ρ : Ro} {w m : Nat} (hρ : RoOk K ρ) (hw : w < kW K) (hm : m < kM K) : RoOk K (rset ρ w (some m)) := by
  intro v x h
  by_cases e : v = w
  · subst e; rw [rset_self] at h; cases h; exact ⟨hw, hm⟩
  · simp only [rset, if_neg e] at h; exact hρ v x h
theorem mvs_set {K : Kt} {h ρ : Ro} {w m : Nat} (hw : w < 8) (hn : ρ w = none) (hs : (h w).isSome = true) : mvs K h (rset ρ w (some m)) = mvs K h ρ + (if blk K w = w ∧ h w ≠ some m then 1 else 0) := by
  refine sm_upd hw ?_ (fun i _ hi => by simp [mvd, rset, hi])
  have e1 : mvd K h ρ w = false := by simp [mvd, hn]
  rw [e1]
  show (if mvd K h (rset ρ w (some m)) w = true then (1 : Int) else 0) = 0 + _
  have e2 : mvd K h (rset ρ w (some m)) w = decide (blk K w = w ∧ h w ≠ some m) := by
    unfold mvd
    rw [rset_self, hs]
    by_cases c1 : blk K w = w
    · by_cases c2 : h w = some m
      · simp [c1, c2]
      · have : (some m != h w) = true := by simp only [bne_iff_ne, ne_eq]; exact fun q => c2 q.symm
        simp [c1, c2, this]
    · simp [c1]
  rw [e2]
  by_cases c : blk K w = w ∧ h w ≠ some m
  · rw [if_pos c, decide_eq_true c]; rfl
  · rw [if_neg c, decide_eq_false c]; rfl
theorem SI.put {σ : SS} {K : Kt} {h ρ : Ro} {g : Gl} {t : Int} {a : Ac} {w m : Nat} (N : Nat) (hK : KOk K) (q : SI σ K h ρ g t a) (hw : w < kW K) (hm : m < kM K) (hn : ρ w = none) : ∃ σ1, fX1_put N 21 (J w) (J m) σ = some σ1 ∧ SI σ1 K h (rset ρ w (some m)) g t a ∧ Keep 19 26 σ σ1 := by
  obtain ⟨q1, q2, q3, q4, q5⟩ := q
  have hM := hK.1
  obtain ⟨σ1, e, r, k⟩ := put_spec (m := m) N (by omega : 13 ≤ 21) hK q1 q3 hw (by omega) hn
  exact ⟨σ1, e, ⟨q1.keep (fun x _ _ => k x (by omega)), q2.keep (fun x _ _ => k x (by omega)), r, q4.keep (fun i _ => by rw [k 19 (by omega)]), q5.keep (k 19 (by omega)) (k 20 (by omega))⟩, k.mono (by omega) (by omega)⟩
theorem SI.remove {σ : SS} {K : Kt} {h ρ : Ro} {g : Gl} {t : Int} {a : Ac} {w : Nat} (N : Nat) (hK : KOk K) (q : SI σ K h ρ g t a) (hρ : RoOk K ρ) (hT : TwApart K ρ) (hw : w < kW K) : ∃ σ1, fX1_remove N 21 (J w) σ = some σ1 ∧ SI σ1 K h (rset ρ w none) g t a ∧ Keep 19 26 σ σ1 := by
  obtain ⟨q1, q2, q3, q4, q5⟩ := q
  obtain ⟨σ1, e, r, k⟩ := remove_spec N (by omega : 13 ≤ 21) hK q1 q3 hρ hT hw
  exact ⟨σ1, e, ⟨q1.keep (fun x _ _ => k x (by omega)), q2.keep (fun x _ _ => k x (by omega)), r, q4.keep (fun i _ => by rw [k 19 (by omega)]), q5.keep (k 19 (by omega)) (k 20 (by omega))⟩, k.mono (by omega) (by omega)⟩
theorem SI.count {σ : SS} {K : Kt} {h ρ : Ro} {g : Gl} {t : Int} {a : Ac} (N : Nat) (q : SI σ K h ρ g t a) (ha : a.2.1 = false) : ∃ σ1, fX2_countTry N σ = some (bz (decide (a.1 < 200000)), σ1) ∧ SI σ1 K h ρ g t (if a.1 = 200000 then (a.1, true, a.2.2) else (a.1 + 1, false, a.2.2)) ∧ Keep 19 26 σ σ1 := by
  obtain ⟨q1, q2, q3, q4, a1, a2, a3, a4, a5, a6⟩ := q
  rw [fX2_countTry, a1, J200000]
  have hlt := J_lt (a := (a.1 : Int)) (b := 200000) (by omega) (by omega) (by omega) (by omega)
  by_cases c : a.1 = 200000
  · rw [if_neg (fun q => by have := hlt.mp q; omega), if_pos c, decide_eq_false (by omega)]
    simp only [sg, zk0]
    refine ⟨_, rfl, ⟨q1.keep (fun x _ _ => stp_n (by omega)), q2.keep (fun x _ _ => stp_n (by omega)), q3.keep (fun x _ _ => stp_n (by omega)), q4.keep (fun i hi => by rw [stp_s, upd_n (by omega)]), ?_⟩, fun k hk => stp_n (by omega)⟩
    refine ⟨?_, ?_, a3, ?_, ?_, ?_⟩
    · rw [stp_s, upd_n (by omega)]; exact a1
    · rw [stp_s, upd_s]; rfl
    · rw [stp_s, upd_n (by omega)]; exact a4
    · rw [stp_s, upd_n (by omega)]; exact a5
    · intro b hb w hw; rw [stp_n (by omega)]; exact a6 b hb w hw
  · rw [if_pos (hlt.mpr (by omega)), if_neg c, decide_eq_true (by omega : a.1 < 200000)]
    simp only [sg, zk1]
    refine ⟨_, rfl, ⟨q1.keep (fun x _ _ => stp_n (by omega)), q2.keep (fun x _ _ => stp_n (by omega)), q3.keep (fun x _ _ => stp_n (by omega)), q4.keep (fun i hi => by rw [stp_s, upd_n (by omega)]), ?_⟩, fun k hk => stp_n (by omega)⟩
    refine ⟨?_, ?_, ?_, ?_, ?_, ?_⟩
    · rw [stp_s, upd_s, J1, J_add]; rfl
    · rw [stp_s, upd_n (by omega), a2, ha]
    · show a.1 + 1 ≤ 200000; omega
    · rw [stp_s, upd_n (by omega)]; exact a4
    · rw [stp_s, upd_n (by omega)]; exact a5
    · intro b hb w hw; rw [stp_n (by omega)]; exact a6 b hb w hw
