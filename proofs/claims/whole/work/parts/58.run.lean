def srch (K : Kt) (h : Ro) (g : Gl) (t : Int) : Ac := if gOK K g emp then dfs K h g (lvl (lvC K h t) (kW K) 0) emp (0, false, []) else (0, false, [])
theorem aim_spec {σ : SS} (N : Nat) (a1 a2 a3 a4 : Int32) : ∃ σ1, fX2_aim N a1 a2 a3 a4 σ = some σ1 ∧ σ1 19 8 = a1 ∧ σ1 19 9 = a2 ∧ σ1 19 10 = a3 ∧ σ1 19 11 = a4 ∧ Keep 19 19 σ σ1 := by
  rw [fX2_aim]
  simp only [sg]
  refine ⟨_, rfl, ?_, ?_, ?_, ?_, fun k hk => ?_⟩
  · simp (disch := omega) only [stp_s, upd_s, upd_n]
  · simp (disch := omega) only [stp_s, upd_s, upd_n]
  · simp (disch := omega) only [stp_s, upd_s, upd_n]
  · simp (disch := omega) only [stp_s, upd_s, upd_n]
  · simp (disch := omega) only [stp_n]
theorem mvs_emp {K : Kt} {h : Ro} : mvs K h emp = 0 := sm_zero (fun w _ => by simp [mvd, emp])
theorem run_spec {σ : SS} {K : Kt} {h : Ro} {g : Gl} {t : Int} {N : Nat} (hN : 10 ≤ N) (hK : KOk K) (hS : StRep σ K) (hH : RowRep σ 13 K h) (hh : RoOk K h) (hg : GlOk K g) (ht : -2147483648 ≤ t ∧ t < 2147483648) (h8 : σ 19 8 = J (g.1 : Int)) (h9 : g.1 = 0 ∨ g.1 = 1 → σ 19 9 = J (g.2.1 : Int)) (h10 : g.1 = 1 ∨ g.1 = 2 → σ 19 10 = J g.2.2.1) (h11 : g.1 = 1 → σ 19 11 = J g.2.2.2) : ∃ σ1, fX2_run N (J t) σ = some σ1 ∧ AcC σ1 K h (srch K h g t) ∧ Keep 19 26 σ σ1 := by
  have hW := hK.2.1
  rw [fX2_run]
  simp only [sg]
  generalize hs5 : stp (stp (stp (stp (stp σ 19 (upd (σ 19) 12 (J t))) 19 (upd (stp σ 19 (upd (σ 19) 12 (J t)) 19) 4 0)) 19 (upd (stp (stp σ 19 (upd (σ 19) 12 (J t))) 19 (upd (stp σ 19 (upd (σ 19) 12 (J t)) 19) 4 0) 19) 5 0)) 19 (upd (stp (stp (stp σ 19 (upd (σ 19) 12 (J t))) 19 (upd (stp σ 19 (upd (σ 19) 12 (J t)) 19) 4 0)) 19 (upd (stp (stp σ 19 (upd (σ 19) 12 (J t))) 19 (upd (stp σ 19 (upd (σ 19) 12 (J t)) 19) 4 0) 19) 5 0) 19) 6 (-1))) 19 (upd (stp (stp (stp (stp σ 19 (upd (σ 19) 12 (J t))) 19 (upd (stp σ 19 (upd (σ 19) 12 (J t)) 19) 4 0)) 19 (upd (stp (stp σ 19 (upd (σ 19) 12 (J t))) 19 (upd (stp σ 19 (upd (σ 19) 12 (J t)) 19) 4 0) 19) 5 0)) 19 (upd (stp (stp (stp σ 19 (upd (σ 19) 12 (J t))) 19 (upd (stp σ 19 (upd (σ 19) 12 (J t)) 19) 4 0)) 19 (upd (stp (stp σ 19 (upd (σ 19) 12 (J t))) 19 (upd (stp σ 19 (upd (σ 19) 12 (J t)) 19) 4 0) 19) 5 0) 19) 6 (-1)) 19) 7 (-1)) = s5
  have k5 : Keep 19 19 σ s5 := fun k hk => by rw [← hs5]; simp (disch := omega) only [stp_n]
  have f8 : ∀ i, 8 ≤ i → i ≠ 12 → s5 19 i = σ 19 i := fun i hi hi2 => by rw [← hs5]; simp (disch := omega) only [stp_s, upd_n]
  have f12 : s5 19 12 = J t := by rw [← hs5]; simp (disch := omega) only [stp_s, upd_n, upd_s]
  have f4 : s5 19 4 = 0 := by rw [← hs5]; simp (disch := omega) only [stp_s, upd_n, upd_s]
  have f5 : s5 19 5 = 0 := by rw [← hs5]; simp (disch := omega) only [stp_s, upd_n, upd_s]
  have f6 : s5 19 6 = -1 := by rw [← hs5]; simp (disch := omega) only [stp_s, upd_n, upd_s]
  have f7 : s5 19 7 = -1 := by rw [← hs5]; simp (disch := omega) only [stp_s, upd_n, upd_s]
  obtain ⟨s6, c1, c2, c3⟩ := clear_spec (σ := s5) (r := 21) K hW hN
  rw [c1, calv_s]
  have k6 : Keep 19 26 σ s6 := (k5.mono (by omega) (by omega)).trans (c3.mono (by omega) (by omega))
  have e19 : s6 19 = s5 19 := c3 19 (by omega)
  have hI : SI s6 K h emp g t (0, false, []) := by
    refine ⟨hS.keep (fun x _ _ => k6 x (by omega)), hH.keep (fun x _ _ => k6 x (by omega)), c2, ⟨?_, ?_, ?_, ?_, ?_⟩, ?_, ?_, ?_, ?_, ?_, ?_⟩
    · rw [e19, f8 8 (by omega) (by omega)]; exact h8
    · intro q; rw [e19, f8 9 (by omega) (by omega)]; exact h9 q
    · intro q; rw [e19, f8 10 (by omega) (by omega)]; exact h10 q
    · intro q; rw [e19, f8 11 (by omega) (by omega)]; exact h11 q
    · rw [e19, f12]
    · rw [e19, f4]; rfl
    · rw [e19, f5]; rfl
    · exact Nat.zero_le _
    · rw [e19, f6]; rfl
    · rw [e19, f7]; rfl
    · intro b hb; cases hb
  rw [goalHolds_spec N hK hI.1 hI.2.2.1 emp_ok hg hI.2.2.2.1, cali_s]
  unfold srch
  cases cg : gOK K g emp with
  | false =>
    rw [if_pos bz_f, fX2_run_45, if_neg (by decide)]
    exact ⟨s6, rfl, hI.2.2.2.2, k6⟩
  | true =>
    rw [if_neg (by decide), if_pos rfl]
    obtain ⟨s7, g1, g2, g3⟩ := give_spec hN hK hh hg ht (kW K) 0 10 (by omega) (by omega) s6 emp (0, false, []) hI emp_ok emp_tw (fun _ _ => rfl) rfl
    rw [mvs_emp] at g1
    have g1' : fX2_giveFrom N 10 0 0 s6 = some s7 := g1
    rw [g1', calv_s, fX2_run_45]
    exact ⟨s7, rfl, g2.2.2.2.2, k6.trans g3⟩
