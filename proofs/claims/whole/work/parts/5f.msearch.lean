def srchM (K : Kt) (o : Nat → Bool) (h : Ro) (g : Gl) : Ac := if gOK K g emp then dfs K h g (lvl (lvM o) (kW K) 0) emp (0, false, []) else (0, false, [])
theorem pv_none {o : Nat → Bool} : ∀ (w : Nat), (∀ v, v < w → o v = true) → pv o w = -1 := by
  intro w
  induction w with
  | zero => intro _; rfl
  | succ w ih =>
    intro hv
    unfold pv
    rw [hv w (by omega), if_pos rfl]
    exact ih (fun v h => hv v (by omega))
theorem KB8 : KB 8 = 976560 := by decide
theorem go_end {τ : SS} {N n : Nat} : lp (fX6_go_29 N) (fun _ _ => none) (n + 1) (J (-1)) τ = some (1, τ) := by
  rw [lp_succ, fX6_go_29, J0, if_pos ((J_lt (by omega) (by omega) (by omega) (by omega)).mpr (by omega))]
  rfl
theorem go_top {τ : SS} {K : Kt} {o : Nat → Bool} {h : Ro} {g : Gl} {N : Nat} (hN : 1000000 ≤ N) (hK : KOk K) (ho : OvOk K o) (hhM : RoOk K h) (hhl : ∀ v, v < kW K → o v = false → (h v).isSome = true) (hg : GlOk K g) (hgo : gOK K g emp = true) (hR : MdRep τ K) (hO : MdOv τ K o) (hA : MdAt τ K 7 h) (hG : GlM τ g) (h13 : τ 0 13 = 0) (h16 : τ 0 16 = -1) : ∃ τ1, fX6_go N τ = some (bz (!(dfs K h g (lvl (lvM o) (kW K) 0) emp (0, false, [])).2.1), τ1) ∧ AcM τ1 K h g (dfs K h g (lvl (lvM o) (kW K) 0) emp (0, false, [])) ∧ KeepM τ τ1 := by
  have hM := hK.1
  have hW := hK.2.1
  have hac : AcM τ K h g (0, false, []) := ⟨h13, Nat.zero_le _, h16, fun b hb => by cases hb⟩
  have hnx := next_up (f := 0) (N := N) (by omega) hK hR hO (Nat.zero_le _) (-1) (by decide)
  have hl := lvl_next (lvM o) (kW K) 0
  have hle := lfr_le (lvM o) (kW K) 0
  have hbef := lfr_before (lvM o) (kW K) 0
  rw [show kW K - 0 = kW K from rfl, show lfr (fun v => !(o v)) (kW K) 0 = lfr (lvM o) (kW K) 0 from rfl] at hnx
  rw [fX6_go, hnx, cali_s, hR.2.1]
  by_cases c : lfr (lvM o) (kW K) 0 < 0 + kW K
  · have hhit := lfr_hit (lvM o) (kW K) 0 c
    rw [if_pos c] at hl
    generalize lfr (lvM o) (kW K) 0 = w at hl hle hbef c hhit
    have how : o w = false := by unfold lvM at hhit; simpa using hhit
    rw [if_pos ((J_lt (by omega) (by omega) (by omega) (by omega)).mpr (by omega)), ck_J (by omega) (by omega) (by omega), J_nn (by omega), sg]
    generalize hτ2 : stp τ 9 (upd (τ 9) w (-1)) = τ2
    have k2 : KeepM τ τ2 := ⟨fun k a b c => by rw [← hτ2, stp_n b], fun i a b => by rw [← hτ2, stp_n (by omega)]⟩
    have hI : GI τ2 K o h g (0, false, []) emp := by
      have hI0 : GI τ K o h g (0, false, []) emp := ⟨hR, hO, hA, hG, hac, fun v m hv => by cases hv⟩
      refine hI0.keep k2 ?_ (fun v m hv => by cases hv)
      unfold AcM at hac ⊢
      rw [← hτ2, stp_n (by omega : (0 : Nat) ≠ 9), stp_n (by omega : (10 : Nat) ≠ 9)]
      exact hac
    have hp := PR_skip (w1 := w) (PR_emp (h := h) (o := o) hK hgo) (Nat.zero_le _) (fun v _ h2 _ => by
      have := hbef v (Nat.zero_le _) h2
      unfold lvM at this
      simpa using this)
    obtain ⟨k, τ3, m1, m2, m3, m4, m5⟩ := go_spec (N := N) (by omega) hK ho hhM hhl hg (kW K - (w + 1)) w (by omega) how (kM K) 0 (by omega) emp τ2 (0, false, []) hp hI rfl
    have hkk : k ≤ 976560 := by
      have h1 : KB (kW K - (w + 1) + 1) ≤ KB 8 := KB_mono (by omega)
      have h2 : KB (kW K - (w + 1) + 1) = 5 * (KB (kW K - (w + 1)) + 2) := rfl
      have h3 : kM K * (KB (kW K - (w + 1)) + 2) ≤ 5 * (KB (kW K - (w + 1)) + 2) := Nat.mul_le_mul_right _ hM
      rw [KB8] at h1
      omega
    have hew : 0 + kW K - (w + 1) = kW K - (w + 1) := by omega
    rw [hew] at hl
    have edfs : dfs K h g (lvl (lvM o) (kW K) 0) emp (0, false, []) = fm (stepM (fun m => okT K h g emp w m) (fun m a => dfs K h g (lvl (lvM o) (kW K - (w + 1)) (w + 1)) (rset emp w (some m)) a)) (kM K) 0 (0, false, []) := by rw [hl]; rfl
    rw [edfs]
    have h9 : τ2 9 w = J (((0 : Nat) : Int) - 1) := by rw [← hτ2, stp_s, upd_s]; rfl
    have hpv := pv_none (o := o) w (fun v h2 => by
      have := hbef v (Nat.zero_le _) h2
      unfold lvM at this
      simpa using this)
    refine ⟨τ3, ?_, m2.2.2.2.2.1, k2.trans m3⟩
    have hNk : N = ((N - 2 - k) + 1 + k) + 1 := by omega
    have hgo : lp (fX6_go_29 N) (fun _ _ => none) N (J w) τ2 = lp (fX6_go_42 N (lp (fX6_go_29 N) (fun _ _ => none) ((N - 2 - k) + 1 + k))) (fun _ _ _ => none) N (J w) (J ((0 : Nat) : Int)) τ2 := by
      have := go29 (N := N) (n := (N - 2 - k) + 1 + k) (by omega : w < 8) h9
      rw [← hNk] at this
      exact this
    rw [hgo]
    cases hsp : (fm (stepM (fun m => okT K h g emp w m) (fun m a => dfs K h g (lvl (lvM o) (kW K - (w + 1)) (w + 1)) (rset emp w (some m)) a)) (kM K) 0 (0, false, [])).2.1 with
    | true => exact m5 hsp _ N (by omega)
    | false =>
      rw [m4 hsp ((N - 2 - k) + 1) N (by omega), hpv]
      exact go_end
  · rw [if_neg c] at hl
    rw [if_neg (fun q => by have := (J_lt (by omega) (by omega) (by omega) (by omega)).mp q; omega), sg, hl]
    refine ⟨_, rfl, ⟨?_, Nat.zero_le _, ?_, fun b hb v m hv => ?_⟩, ⟨fun k a _ _ => stp_n a, fun i _ b => by rw [stp_s, upd_n b]⟩⟩
    · rw [stp_s, upd_n (by omega)]; exact h13
    · rw [stp_s, upd_s]
      show (0 : Int32) = J (wtOf K h g emp)
      unfold wtOf
      by_cases c3 : g.1 = 3
      · rw [if_pos c3, oc_emp]; rfl
      · rw [if_neg c3, mvs_emp]; rfl
    · have : b = emp := (Option.some.inj hb).symm
      subst this
      cases hv
/-- no room: no try at all -/
theorem isTry_no {τ : SS} {K : Kt} {g : Gl} {N : Nat} {x y : Int32} (hK : KOk K) (hR : MdRep τ K) (hG : GlM τ g) (hg : GlOk K g) (h1 : g.1 = 1) (hno : gOK K g emp = false) : fX6_isTry N x y τ = some (0, τ) := by
  have hM5 := hK.1
  obtain ⟨g0, gm, ga, gb⟩ := g
  obtain ⟨q1, q2, q3, q4⟩ := id hg
  obtain ⟨e1, e2, e3, e4⟩ := id hG
  dsimp only at q1 q2 q3 q4 e1 e2 e3 e4 h1
  subst h1
  have hgm := q2 (Or.inr rfl)
  have hb := q3 rfl
  have hrm := hK.2.2.1 gm hgm
  obtain ⟨r1, r2⟩ := hR.2.2.1 gm hgm
  have hgp : (decide (ga ≤ kRA K gm - uA K emp gm) && decide (gb ≤ kRB K gm - uB K emp gm)) = false := hno
  rw [uA_emp, uB_emp, Bool.and_eq_false_iff, decide_eq_false_iff_not, decide_eq_false_iff_not] at hgp
  rw [fX6_isTry, e1, if_pos (show J ((1 : Nat) : Int) = 1 from rfl), e2 (Or.inr rfl), ck_J (by omega) (by omega) (by omega), J_nn (by omega), r1, e3 (Or.inl rfl)]
  have c1 := J_lt (a := kRA K gm) (b := ga) (by omega) (by omega) (by omega) (by omega)
  by_cases d1 : kRA K gm < ga
  · rw [if_pos (c1.mpr d1), fX6_isTry_40]; rfl
  · rw [if_neg (fun q => d1 (c1.mp q)), ck_J (by omega) (by omega) (by omega), e4 rfl, r2, if_neg (fun q => by have := (J_le (by omega) (by omega) (by omega) (by omega)).mp q; omega), fX6_isTry_40]; rfl
theorem go_no {τ : SS} {K : Kt} {o : Nat → Bool} {g : Gl} {N : Nat} (hN : 1000000 ≤ N) (hK : KOk K) (hR : MdRep τ K) (hO : MdOv τ K o) (hG : GlM τ g) (hg : GlOk K g) (h1 : g.1 = 1) (hno : gOK K g emp = false) (h13 : τ 0 13 = 0) : ∃ τ1, fX6_go N τ = some (1, τ1) ∧ τ1 0 13 = 0 ∧ KeepM τ τ1 := by
  have hM := hK.1
  have hW := hK.2.1
  have hnx := next_up (f := 0) (N := N) (by omega) hK hR hO (Nat.zero_le _) (-1) (by decide)
  have hle := lfr_le (lvM o) (kW K) 0
  have hbef := lfr_before (lvM o) (kW K) 0
  rw [show kW K - 0 = kW K from rfl, show lfr (fun v => !(o v)) (kW K) 0 = lfr (lvM o) (kW K) 0 from rfl] at hnx
  rw [fX6_go, hnx, cali_s, hR.2.1]
  by_cases c : lfr (lvM o) (kW K) 0 < 0 + kW K
  · generalize lfr (lvM o) (kW K) 0 = w at hle hbef c
    rw [if_pos ((J_lt (by omega) (by omega) (by omega) (by omega)).mpr (by omega)), ck_J (by omega) (by omega) (by omega), J_nn (by omega), sg]
    generalize hτ2 : stp τ 9 (upd (τ 9) w (-1)) = τ2
    have k2 : KeepM τ τ2 := ⟨fun k a b c => by rw [← hτ2, stp_n b], fun i a b => by rw [← hτ2, stp_n (by omega)]⟩
    have hR2 : MdRep τ2 K := hR.keep (k2.2 0 (by omega) (by omega)) (k2.2 3 (by omega) (by omega)) (fun x _ _ => k2.1 x (by omega) (by omega) (by omega))
    have hO2 : MdOv τ2 K o := fun v hv => by rw [k2.1 8 (by omega) (by omega) (by omega)]; exact hO v hv
    have hG2 : GlM τ2 g := by
      unfold GlM at hG ⊢
      rw [k2.2 17 (by omega) (by omega), k2.2 18 (by omega) (by omega), k2.2 19 (by omega) (by omega), k2.2 20 (by omega) (by omega)]
      exact hG
    have h9 : τ2 9 w = J (((0 : Nat) : Int) - 1) := by rw [← hτ2, stp_s, upd_s]; rfl
    have hpv := pv_none (o := o) w (fun v h2 => by
      have := hbef v (Nat.zero_le _) h2
      unfold lvM at this
      simpa using this)
    have loop : ∀ (d c n2 n : Nat), c + d = kM K → d < n2 → lp (fX6_go_42 N (lp (fX6_go_29 N) (fun _ _ => none) n)) (fun _ _ _ => none) n2 (J w) (J c) τ2 = lp (fX6_go_29 N) (fun _ _ => none) n (J (pv o w)) τ2 := by
      intro d
      induction d with
      | zero =>
        intro c n2 n hc hn2
        obtain ⟨n2, rfl⟩ : ∃ n', n2 = n' + 1 := ⟨n2 - 1, by omega⟩
        have hcM : c = kM K := by omega
        rw [lp_succ, fX6_go_42, hR2.1, if_pos ((J_le (by omega) (by omega) (by omega) (by omega)).mpr (by omega)), fX6_go_65, hR2.1, if_pos (by rw [hcM]), next_dn (by omega) hK hR2 hO2 (by omega), cali_s, fX6_go_142]
      | succ d ih =>
        intro c n2 n hc hn2
        obtain ⟨n2, rfl⟩ : ∃ n', n2 = n' + 1 := ⟨n2 - 1, by omega⟩
        rw [lp_succ, fX6_go_42, hR2.1, if_neg (fun q => by have := (J_le (by omega) (by omega) (by omega) (by omega)).mp q; omega), isTry_no hK hR2 hG2 hg h1 hno, cali_s, if_pos rfl, J1, J_add]
        exact ih (c + 1) n2 n (by omega) (by omega)
    refine ⟨τ2, ?_, by rw [k2.2 13 |> fun _ => (by rw [← hτ2, stp_n (by omega)] : τ2 0 13 = τ 0 13)]; exact h13, k2⟩
    obtain ⟨n, rfl⟩ : ∃ n, N = n + 1 + 1 := ⟨N - 2, by omega⟩
    have hg29 := go29 (N := n + 1 + 1) (n := n + 1) (by omega : w < 8) h9
    rw [hg29, loop (kM K) 0 _ _ (by omega) (by omega), hpv]
    exact go_end
  · rw [if_neg (fun q => by have := (J_lt (by omega) (by omega) (by omega) (by omega)).mp q; omega), sg]
    refine ⟨_, rfl, ?_, ⟨fun k a _ _ => stp_n a, fun i _ b => by rw [stp_s, upd_n b]⟩⟩
    rw [stp_s, upd_n (by omega)]; exact h13
theorem search_spec {τ : SS} {K : Kt} {o : Nat → Bool} {h : Ro} {g : Gl} {N : Nat} (hN : 1000000 ≤ N) (hK : KOk K) (ho : OvOk K o) (hhM : RoOk K h) (hhl : ∀ v, v < kW K → o v = false → (h v).isSome = true) (hg : GlOk K g) (hR : MdRep τ K) (hO : MdOv τ K o) (hA : MdAt τ K 7 h) (hG : GlM τ g) : ∃ τ1, fX6_search N τ = some (bz (!(srchM K o h g).2.1), τ1) ∧ AcM τ1 K h g (srchM K o h g) ∧ KeepM τ τ1 := by
  have hM5 := hK.1
  rw [fX6_search, sg, sg]
  generalize hτ2 : stp (stp τ 0 (upd (τ 0) 13 0)) 0 (upd (stp τ 0 (upd (τ 0) 13 0) 0) 16 (-1)) = τ2
  have k2 : KeepM τ τ2 := ⟨fun k a b c => by rw [← hτ2, stp_n a, stp_n a], fun i a b => by rw [← hτ2, stp_s, upd_n b, stp_s, upd_n a]⟩
  have f13 : τ2 0 13 = 0 := by rw [← hτ2, stp_s, upd_n (by omega), stp_s, upd_s]
  have f16 : τ2 0 16 = -1 := by rw [← hτ2, stp_s, upd_s]
  have hR2 : MdRep τ2 K := hR.keep (k2.2 0 (by omega) (by omega)) (k2.2 3 (by omega) (by omega)) (fun x _ _ => k2.1 x (by omega) (by omega) (by omega))
  have hO2 : MdOv τ2 K o := fun v hv => by rw [k2.1 8 (by omega) (by omega) (by omega)]; exact hO v hv
  have hA2 : MdAt τ2 K 7 h := fun w m hw hm => by rw [k2.1 7 (by omega) (by omega) (by omega)]; exact hA w m hw hm
  have hG2 : GlM τ2 g := by
    unfold GlM at hG ⊢
    rw [k2.2 17 (by omega) (by omega), k2.2 18 (by omega) (by omega), k2.2 19 (by omega) (by omega), k2.2 20 (by omega) (by omega)]
    exact hG
  have yes : gOK K g emp = true → ∃ τ1, fX6_search_55 N τ2 = some (bz (!(srchM K o h g).2.1), τ1) ∧ AcM τ1 K h g (srchM K o h g) ∧ KeepM τ τ1 := by
    intro hgo
    have e : srchM K o h g = dfs K h g (lvl (lvM o) (kW K) 0) emp (0, false, []) := by unfold srchM; rw [if_pos hgo]
    rw [e]
    obtain ⟨τ1, t1, t2, t3⟩ := go_top hN hK ho hhM hhl hg hgo hR2 hO2 hA2 hG2 f13 f16
    rw [fX6_search_55, t1, cali_s]
    refine ⟨τ1, ?_, t2, k2.trans t3⟩
    cases (!(dfs K h g (lvl (lvM o) (kW K) 0) emp (0, false, [])).2.1) <;> rfl
  have no : g.1 = 1 → gOK K g emp = false → ∃ τ1, fX6_search_50 N τ2 = some (bz (!(srchM K o h g).2.1), τ1) ∧ AcM τ1 K h g (srchM K o h g) ∧ KeepM τ τ1 := by
    intro h1 hno
    have e : srchM K o h g = (0, false, []) := by unfold srchM; rw [hno, if_neg (by decide)]
    rw [e]
    obtain ⟨τ1, t1, t2, t3⟩ := go_no (o := o) hN hK hR2 hO2 hG2 hg h1 hno f13
    rw [fX6_search_50, fX6_searchRoom, t1, cali_s, if_neg (by decide), fX6_searchRoom_18, sg]
    refine ⟨_, rfl, ⟨?_, Nat.zero_le _, ?_, fun b hb => by cases hb⟩, (k2.trans t3).trans ⟨fun k a _ _ => stp_n a, fun i _ b => by rw [stp_s, upd_n b]⟩⟩
    · rw [stp_s, upd_n (by omega)]; exact t2
    · rw [stp_s, upd_s]; rfl
  rw [hG2.1, J1]
  have cg := J_eq (a := (g.1 : Int)) (b := 1) (by have := hg.1; omega) (by have := hg.1; omega) (by omega) (by omega)
  by_cases c : g.1 = 1
  · rw [if_pos (cg.mpr (by omega)), hG2.2.1 (Or.inr c), ck_J (by have := hg.2.1 (Or.inr c); omega) (by have := hg.2.1 (Or.inr c); omega) (by omega), J_nn (by have := hg.2.1 (Or.inr c); omega)]
    have hgm := hg.2.1 (Or.inr c)
    have hb := hg.2.2.1 c
    have hrm := hK.2.2.1 _ hgm
    obtain ⟨r1, r2⟩ := hR2.2.2.1 _ hgm
    have egk : gOK K g emp = (decide (g.2.2.1 ≤ kRA K g.2.1) && decide (g.2.2.2 ≤ kRB K g.2.1)) := by
      unfold gOK
      rw [c, uA_emp, uB_emp, Int.sub_zero, Int.sub_zero]
      rfl
    rw [r1, hG2.2.2.1 (Or.inl c)]
    have c1 := J_lt (a := kRA K g.2.1) (b := g.2.2.1) (by omega) (by omega) (by omega) (by omega)
    by_cases d1 : kRA K g.2.1 < g.2.2.1
    · rw [if_pos (c1.mpr d1)]
      exact no c (by rw [egk, decide_eq_false (by omega)]; rfl)
    · rw [if_neg (fun q => d1 (c1.mp q)), ck_J (by omega) (by omega) (by omega), hG2.2.2.2 c, r2]
      have c2 := J_le (a := g.2.2.2) (b := kRB K g.2.1) (by omega) (by omega) (by omega) (by omega)
      by_cases d2 : g.2.2.2 ≤ kRB K g.2.1
      · rw [if_pos (c2.mpr d2)]
        exact yes (by rw [egk, decide_eq_true (by omega : g.2.2.1 ≤ kRA K g.2.1), decide_eq_true d2]; rfl)
      · rw [if_neg (fun q => d2 (c2.mp q))]
        exact no c (by rw [egk, decide_eq_false d2, Bool.and_false])
  · rw [if_neg (fun q => c (by have := cg.mp q; omega))]
    refine yes ?_
    unfold gOK
    have hc : g.1 = 0 ∨ g.1 = 2 ∨ g.1 = 3 := by have := hg.1; omega
    rcases hc with e | e | e
    · rw [e, cn_emp]; rfl
    · have := hg.2.2.2 e
      rw [e, oc_emp]
      exact decide_eq_true (by omega)
    · rw [e]
      rfl
theorem lvl_congr {p q : Nat → Bool} : ∀ (d f : Nat), (∀ v, f ≤ v → v < f + d → p v = q v) → lvl p d f = lvl q d f := by
  intro d
  induction d with
  | zero => intro f _; rfl
  | succ d ih =>
    intro f h
    unfold lvl
    rw [h f (Nat.le_refl _) (by omega), ih (f + 1) (fun v h1 h2 => h v (by omega) (by omega))]
theorem srch_eq {K : Kt} {o : Nat → Bool} {h : Ro} {g : Gl} {t : Int} (hl : ∀ v, v < kW K → lvC K h t v = !(o v)) : srch K h g t = srchM K o h g := by
  unfold srch srchM
  rw [lvl_congr (p := lvC K h t) (q := lvM o) (kW K) 0 (fun v _ h2 => hl v (by omega))]
