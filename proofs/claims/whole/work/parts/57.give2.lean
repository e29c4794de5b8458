theorem stepM_no {ok : Nat → Bool} {f : Nat → Ac → Ac} {a : Ac} {m : Nat} (h : a.2.1 = false) (h1 : ok m = false) : stepM ok f a m = a := by
  unfold stepM
  rw [if_neg (by rw [h]; decide), h1, if_neg (by decide)]
theorem stepM_sp {ok : Nat → Bool} {f : Nat → Ac → Ac} {a : Ac} {m : Nat} (h : a.2.1 = false) (h1 : ok m = true) (h2 : a.1 = 200000) : stepM ok f a m = (a.1, true, a.2.2) := by
  unfold stepM
  rw [if_neg (by rw [h]; decide), h1, if_pos rfl, if_pos h2]
theorem stepM_go {ok : Nat → Bool} {f : Nat → Ac → Ac} {a : Ac} {m : Nat} (h : a.2.1 = false) (h1 : ok m = true) (h2 : ¬ a.1 = 200000) : stepM ok f a m = f m (a.1 + 1, false, a.2.2) := by
  unfold stepM
  rw [if_neg (by rw [h]; decide), h1, if_pos rfl, if_neg h2]
/-- what giveFrom does with what stands behind it -/
def GiveOk (N d : Nat) (K : Kt) (h : Ro) (g : Gl) (t : Int) (f e : Nat) : Prop := ∀ (σ : SS) (ρ : Ro) (a : Ac), SI σ K h ρ g t a → RoOk K ρ → TwApart K ρ → (∀ v, f ≤ v → ρ v = none) → a.2.1 = false → ∃ σ1, fX2_giveFrom N d (J f) (J (mvs K h ρ)) σ = some σ1 ∧ SI σ1 K h ρ g t (dfs K h g (lvl (lvC K h t) e f) ρ a) ∧ Keep 19 26 σ σ1
theorem give_inner {K : Kt} {h : Ro} {g : Gl} {t : Int} {N d w : Nat} (hK : KOk K) (hh : RoOk K h) (hg : GlOk K g) (hw : w < kW K) (hlw : (h w).isSome = true) (hGo : GiveOk N d K h g t (w + 1) (kW K - (w + 1))) {ρ : Ro} (hρ : RoOk K ρ) (hT : TwApart K ρ) (hn : ∀ v, w ≤ v → ρ v = none) : ∀ (dm j n : Nat) (σ : SS) (a : Ac), j + dm = kM K → dm < n → SI σ K h ρ g t a → ∃ σ1, lp (fX2_giveFrom_46 N (fX2_giveFrom N d)) (fun _ _ _ _ _ => none) n (J (mvs K h ρ)) (J w) (bz (blk K w == w)) (J j) σ = some σ1 ∧ SI σ1 K h ρ g t (fm (stepM (fun m => okT K h g ρ w m) (fun m a => dfs K h g (lvl (lvC K h t) (kW K - (w + 1)) (w + 1)) (rset ρ w (some m)) a)) dm j a) ∧ Keep 19 26 σ σ1 := by
  have hM := hK.1
  have hW := hK.2.1
  have hnw := hn w (Nat.le_refl _)
  intro dm
  induction dm with
  | zero =>
    intro j n σ a hj hd hI
    obtain ⟨n, rfl⟩ : ∃ n', n = n' + 1 := ⟨n - 1, by omega⟩
    rw [lp_succ, fX2_giveFrom_46, hI.1.1, if_pos ((J_le (by omega) (by omega) (by omega) (by omega)).mpr (by omega)), fX2_giveFrom_182]
    exact ⟨σ, rfl, hI, Keep.rfl⟩
  | succ dm ih =>
    intro j n σ a hj hd hI
    obtain ⟨n, rfl⟩ : ∃ n', n = n' + 1 := ⟨n - 1, by omega⟩
    have hjM : j < kM K := by omega
    have hb := blk_le K w
    obtain ⟨hS, hH, hR, hG, hA⟩ := id hI
    rw [lp_succ, fX2_giveFrom_46, hS.1, if_neg (fun q => by have := (J_le (by omega) (by omega) (by omega) (by omega)).mp q; omega), hA.2.1]
    cases hsp : a.2.1 with
    | true =>
      rw [if_neg (by decide), fX2_giveFrom_182, fm_spent _ _ _ hsp]
      exact ⟨σ, rfl, hI, Keep.rfl⟩
    | false =>
      rw [if_pos bz_f, ck_J (by omega) (by omega) (by omega), J_nn (by omega), hH.1 w (by omega)]
      -- on with the next machine
      have next : ∀ (σ2 : SS) (a2 : Ac), SI σ2 K h ρ g t a2 → Keep 19 26 σ σ2 → a2 = stepM (fun m => okT K h g ρ w m) (fun m a => dfs K h g (lvl (lvC K h t) (kW K - (w + 1)) (w + 1)) (rset ρ w (some m)) a) a j → ∃ σ1, fX2_giveFrom_176 N (fX2_giveFrom N d) (lp (fX2_giveFrom_46 N (fX2_giveFrom N d)) (fun _ _ _ _ _ => none) n) (J (mvs K h ρ)) (J w) (bz (blk K w == w)) (J j) σ2 = some σ1 ∧ SI σ1 K h ρ g t (fm (stepM (fun m => okT K h g ρ w m) (fun m a => dfs K h g (lvl (lvC K h t) (kW K - (w + 1)) (w + 1)) (rset ρ w (some m)) a)) (dm + 1) j a) ∧ Keep 19 26 σ σ1 := by
        intro σ2 a2 hI2 hk2 ha2
        rw [fX2_giveFrom_176, J1, J_add]
        obtain ⟨σ1, e1, e2, e3⟩ := ih (j + 1) n σ2 a2 (by omega) (by omega) hI2
        refine ⟨σ1, e1, ?_, hk2.trans e3⟩
        rw [ha2] at e2
        exact e2
      have hkd := hK.2.2.2 w hw
      obtain ⟨s4, s5, s6, -, -, s8, -, s10, -⟩ := hS.2.2.2.1 w hw
      have htk := takes_spec (w := w) (m := j) (a := kA K w) (b := kB K w) (g := kg K w) (k := kd K w) (ld := blk K w) N (by omega : 13 ≤ 21) hK hS hR hρ (by omega) hjM (by omega) s4 s5 s8 s10 ⟨hkd.1, hkd.2.1⟩ ⟨hkd.2.2.1, hkd.2.2.2.1⟩ (fun q => hkd.2.2.2.2.2.2.2 (Or.inl q))
      have h104 : ∀ (x6 : Int32), (x6 = 0 ↔ h w = some j) → ¬ (kd K w = 3 ∧ h w ≠ some j) → ∃ σ1, fX2_giveFrom_104 N (fX2_giveFrom N d) (lp (fX2_giveFrom_46 N (fX2_giveFrom N d)) (fun _ _ _ _ _ => none) n) (J (mvs K h ρ)) (J w) (bz (blk K w == w)) (J j) x6 σ = some σ1 ∧ SI σ1 K h ρ g t (fm (stepM (fun m => okT K h g ρ w m) (fun m a => dfs K h g (lvl (lvC K h t) (kW K - (w + 1)) (w + 1)) (rset ρ w (some m)) a)) (dm + 1) j a) ∧ Keep 19 26 σ σ1 := by
        intro x6 hx6 hst
        have est : (kd K w == 3 && h w != some j) = false := by
          by_cases c1 : kd K w = 3
          · have : h w = some j := Decidable.byContradiction (fun q => hst ⟨c1, q⟩)
            simp [this]
          · simp [c1]
        rw [fX2_giveFrom_104, htk, cali_s]
        cases ctk : tk K ρ w j (kA K w) (kB K w) (kd K w) (kg K w) (blk K w) with
        | false =>
          rw [if_pos bz_f]
          refine next σ a hI Keep.rfl ?_
          have : okT K h g ρ w j = false := by unfold okT; rw [ctk]; simp
          exact (stepM_no hsp this).symm
        | true =>
          rw [if_neg (by decide)]
          obtain ⟨σ2, p1, p2, p3⟩ := SI.put N hK hI hw hjM hnw
          rw [p1, calv_s]
          have hρ2 := rset_ok hρ hw hjM
          have hT2 := tk_tw hK hρ hT hw hnw ctk
          rw [goalHolds_spec N hK p2.1 p2.2.2.1 hρ2 hg p2.2.2.2.1, cali_s]
          -- taken back, on with the next machine
          have back : ∀ (σ3 : SS) (a3 : Ac), SI σ3 K h (rset ρ w (some j)) g t a3 → Keep 19 26 σ σ3 → a3 = stepM (fun m => okT K h g ρ w m) (fun m a => dfs K h g (lvl (lvC K h t) (kW K - (w + 1)) (w + 1)) (rset ρ w (some m)) a) a j → ∃ σ1, fX2_giveFrom_168 N (fX2_giveFrom N d) (lp (fX2_giveFrom_46 N (fX2_giveFrom N d)) (fun _ _ _ _ _ => none) n) (J (mvs K h ρ)) (J w) (bz (blk K w == w)) (J j) σ3 = some σ1 ∧ SI σ1 K h ρ g t (fm (stepM (fun m => okT K h g ρ w m) (fun m a => dfs K h g (lvl (lvC K h t) (kW K - (w + 1)) (w + 1)) (rset ρ w (some m)) a)) (dm + 1) j a) ∧ Keep 19 26 σ σ1 := by
            intro σ3 a3 hI3 hk3 ha3
            rw [fX2_giveFrom_168]
            obtain ⟨σ4, r1, r2, r3⟩ := SI.remove N hK hI3 hρ2 hT2 hw
            rw [r1, calv_s]
            rw [rset_back hnw] at r2
            exact next σ4 a3 r2 (hk3.trans r3) ha3
          cases cg : gOK K g (rset ρ w (some j)) with
          | false =>
            rw [if_pos bz_f]
            refine back σ2 a p2 p3 ?_
            have : okT K h g ρ w j = false := by unfold okT; rw [cg]; simp
            exact (stepM_no hsp this).symm
          | true =>
            rw [if_neg (by decide)]
            have hok : okT K h g ρ w j = true := by unfold okT; rw [cg, ctk, est]; rfl
            obtain ⟨σ3, c1, c2, c3⟩ := SI.count N p2 hsp
            rw [c1, cali_s]
            by_cases c : a.1 = 200000
            · rw [if_pos c] at c2
              rw [if_pos (by rw [c]; rfl)]
              refine back σ3 _ c2 (p3.trans c3) ?_
              exact (stepM_sp hsp hok c).symm
            · rw [if_neg c] at c2
              have hlt : a.1 < 200000 := by have := hA.2.2.1; omega
              rw [decide_eq_true hlt, if_neg (by decide)]
              -- down
              have down : ∀ (mvx : Int32), mvx = J (mvs K h (rset ρ w (some j))) → ∃ σ1, fX2_giveFrom_165 N (fX2_giveFrom N d) (lp (fX2_giveFrom_46 N (fX2_giveFrom N d)) (fun _ _ _ _ _ => none) n) (J (mvs K h ρ)) (J w) (bz (blk K w == w)) (J j) mvx (J w + 1) σ3 = some σ1 ∧ SI σ1 K h ρ g t (fm (stepM (fun m => okT K h g ρ w m) (fun m a => dfs K h g (lvl (lvC K h t) (kW K - (w + 1)) (w + 1)) (rset ρ w (some m)) a)) (dm + 1) j a) ∧ Keep 19 26 σ σ1 := by
                intro mvx hmv
                obtain ⟨σ4, g1, g2, g3⟩ := hGo σ3 (rset ρ w (some j)) _ c2 hρ2 hT2 (fun v hv => by
                  have : ¬ v = w := by omega
                  simp only [rset, if_neg this]
                  exact hn v (by omega)) rfl
                rw [fX2_giveFrom_165, hmv, J1, J_add]
                have g1' : fX2_giveFrom N d (J ((w : Int) + 1)) (J (mvs K h (rset ρ w (some j)))) σ3 = some σ4 := g1
                rw [g1', calv_s]
                refine back σ4 _ g2 ((p3.trans c3).trans g3) ?_
                exact (stepM_go (f := fun m a => dfs K h g (lvl (lvC K h t) (kW K - (w + 1)) (w + 1)) (rset ρ w (some m)) a) hsp hok c).symm
              have hms := mvs_set (K := K) (h := h) (m := j) (by omega : w < 8) hnw hlw
              by_cases cl : blk K w = w
              · rw [if_neg (by rw [cl]; simp [bz])]
                by_cases ca : h w = some j
                · rw [if_pos (hx6.mpr ca), fX2_giveFrom_164]
                  exact down _ (by rw [hms, if_neg (fun q => q.2 ca), Int.add_zero])
                · rw [if_neg (fun q => ca (hx6.mp q))]
                  exact down _ (by rw [hms, if_pos ⟨cl, ca⟩, J1, J_add])
              · have : (blk K w == w) = false := by simp [cl]
                rw [if_pos (by rw [this]; rfl), fX2_giveFrom_164]
                exact down _ (by rw [hms, if_neg (fun q => cl q.1), Int.add_zero])
      have hbw : ∀ x, h w = some x → x < 2147483647 := fun x q => by have := (hh w x q).2; omega
      have h84 : ∀ (x6 : Int32), (x6 = 0 ↔ h w = some j) → ∃ σ1, fX2_giveFrom_84 N (fX2_giveFrom N d) (lp (fX2_giveFrom_46 N (fX2_giveFrom N d)) (fun _ _ _ _ _ => none) n) (J (mvs K h ρ)) (J w) (bz (blk K w == w)) (J j) x6 σ = some σ1 ∧ SI σ1 K h ρ g t (fm (stepM (fun m => okT K h g ρ w m) (fun m a => dfs K h g (lvl (lvC K h t) (kW K - (w + 1)) (w + 1)) (rset ρ w (some m)) a)) (dm + 1) j a) ∧ Keep 19 26 σ σ1 := by
        intro x6 hx6
        rw [fX2_giveFrom_84, ck_J (by omega) (by omega) (by omega), J_nn (by omega), s6, J3]
        have h3 := J_eq (a := (kd K w : Int)) (b := 3) (by omega) (by omega) (by omega) (by omega)
        by_cases c3 : kd K w = 3
        · rw [if_pos (h3.mpr (by omega))]
          by_cases ca : h w = some j
          · rw [if_pos (hx6.mpr ca)]
            exact h104 x6 hx6 (fun q => q.2 ca)
          · rw [if_neg (fun q => ca (hx6.mp q))]
            refine next σ a hI Keep.rfl ?_
            have e3 : (kd K w == 3 && h w != some j) = true := by
              have : (h w != some j) = true := by simp only [bne_iff_ne, ne_eq]; exact ca
              rw [this]; simp [c3]
            have : okT K h g ρ w j = false := by unfold okT; rw [e3]; rfl
            exact (stepM_no hsp this).symm
        · rw [if_neg (fun q => c3 (by have := h3.mp q; omega))]
          exact h104 x6 hx6 (fun q => c3 q.1)
      have hrv : J (j : Int) = rv (h w) ↔ h w = some j := by
        rw [show J (j : Int) = rv (some j) from rfl, rv_inj (fun x q => by cases q; omega) hbw]
        exact ⟨fun q => q.symm, fun q => q.symm⟩
      by_cases ca : h w = some j
      · rw [if_pos (hrv.mpr ca)]
        exact h84 0 ⟨fun _ => ca, fun _ => rfl⟩
      · rw [if_neg (fun q => ca (hrv.mp q))]
        exact h84 1 ⟨fun q => absurd q (by decide), fun q => absurd q ca⟩
theorem give_spec {K : Kt} {h : Ro} {g : Gl} {t : Int} {N : Nat} (hN : 10 ≤ N) (hK : KOk K) (hh : RoOk K h) (hg : GlOk K g) (ht : -2147483648 ≤ t ∧ t < 2147483648) : ∀ (e f d : Nat), f + e = kW K → e < d → GiveOk N d K h g t f e := by
  have hM := hK.1
  have hW := hK.2.1
  intro e
  induction e using Nat.strongRecOn with
  | ind e ih =>
    intro f d hf hd σ ρ a hI hρ hT hn ha
    obtain ⟨d, rfl⟩ : ∃ d', d = d' + 1 := ⟨d - 1, by omega⟩
    obtain ⟨hS, hH, hR, hG, hA⟩ := id hI
    have hnx := nextWork_spec (f := f) hN hK hS hH hh hG ht (by omega)
    have he : kW K - f = e := by omega
    rw [he] at hnx
    have hl := lvl_next (lvC K h t) e f
    have hle := lfr_le (lvC K h t) e f
    rw [show fX2_giveFrom N (d + 1) (J f) (J (mvs K h ρ)) σ = fX2_giveFrom_e N (fX2_giveFrom N d) (J f) (J (mvs K h ρ)) σ from rfl, fX2_giveFrom_e, hnx, cali_s, hS.2.1]
    by_cases c : lfr (lvC K h t) e f < f + e
    · rw [if_pos c] at hl
      have hhit := lfr_hit (lvC K h t) e f c
      generalize lfr (lvC K h t) e f = w at hl hle c hhit
      have hwW : w < kW K := by omega
      have hb := blk_le K w
      rw [if_pos ((J_lt (by omega) (by omega) (by omega) (by omega)).mpr (by omega)), ck_J (by omega) (by omega) (by omega), J_nn (by omega), (hS.2.2.2.1 w hwW).2.2.2.2.2.2.2.1]
      have hlw : (h w).isSome = true := by
        unfold lvC at hhit
        simp only [Bool.and_eq_true] at hhit
        exact hhit.1
      have e1 : f + e - (w + 1) = kW K - (w + 1) := by omega
      rw [e1] at hl
      have inner := give_inner (d := d) hK hh hg hwW hlw (ih (kW K - (w + 1)) (by omega) (w + 1) d (by omega) (by omega)) hρ hT (fun v hv => hn v (by omega)) (kM K) 0 N σ a (by omega) (by omega) hI
      rw [hl]
      have hbe := J_eq (a := (blk K w : Int)) (b := (w : Int)) (by omega) (by omega) (by omega) (by omega)
      by_cases cb : blk K w = w
      · rw [if_pos (hbe.mpr (by omega)), fX2_giveFrom_41]
        rw [show bz (blk K w == w) = 1 from by rw [cb]; simp [bz]] at inner
        exact inner
      · rw [if_neg (fun q => cb (by have := hbe.mp q; omega)), fX2_giveFrom_41]
        rw [show bz (blk K w == w) = 0 from by simp [bz, cb]] at inner
        exact inner
    · rw [if_neg c] at hl
      rw [if_neg (fun q => by have := (J_lt (by omega) (by omega) (by omega) (by omega)).mp q; omega), hl]
      obtain ⟨σ1, k1, k2, k3, k4⟩ := keep_spec N hA hR
      rw [k1, calv_s]
      exact ⟨σ1, rfl, ⟨hS.keep (fun x _ _ => k4 x (by omega)), hH.keep (fun x _ _ => k4 x (by omega)), hR.keep (fun x _ _ => k4 x (by omega)), hG.keep k3, k2⟩, k4.mono (by omega) (by omega)⟩
