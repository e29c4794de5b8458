theorem ht_and {K : Kt} {ρ : Ro} {m w : Nat} (hK : KOk K) (hw : w < kW K) (h1 : kd K w = 1) : ht K ρ m (kg K w).toNat = false ↔ ∀ v, v < 8 → ρ v = some m → kd K v = 1 → kg K v ≠ kg K w := by
  have hb := (hK.2.2.2 w hw).2.2.2.2.2.2.2 (Or.inl h1)
  have e : (((kg K w).toNat : Nat) : Int) = kg K w := by omega
  simp only [ht, List.any_eq_false, List.mem_range, Bool.and_eq_true, beq_iff_eq, e, not_and]
  constructor
  · intro h v hv h2 h3
    exact h v hv ⟨h2, h3⟩
  · intro h v hv h2
    exact h v hv h2.1 h2.2
/-- a work is put -/
theorem put_core {σ σ1 : SS} {r : Nat} {K : Kt} {ρ : Ro} {w m : Nat} (hK : KOk K) (hS : StRep σ K) (hR : RowRep σ r K ρ) (hw : w < kW K) (hm : m < 5) (hn : ρ w = none)
    (h1 : σ1 (r + 1) = upd (σ (r + 1)) w (J m)) (h2 : σ1 (r + 2) = upd (σ (r + 2)) m (σ (r + 2) m + σ 4 w)) (h3 : σ1 (r + 3) = upd (σ (r + 3)) m (σ (r + 3) m + σ 5 w)) (h4 : σ1 (r + 4) = upd (σ (r + 4)) m (σ (r + 4) m + 1)) (h5 : σ1 (r + 5) = upd (σ (r + 5)) m (σ (r + 5) m ||| σ 8 w)) (h6 : σ1 r 6 = if σ (r + 4) m = 0 then σ r 6 + 1 else σ r 6) : RowRep σ1 r K (rset ρ w (some m)) := by
  have hw8 : w < 8 := Nat.lt_of_lt_of_le hw hK.2.1
  obtain ⟨r1, r2, r3⟩ := hR
  obtain ⟨-, -, -, s4, -⟩ := hS
  obtain ⟨a1, a2, a3, a4, a5, a6, -⟩ := s4 w hw
  refine ⟨fun v hv => ?_, fun m' hm' => ⟨?_, ?_, ?_, ?_⟩, ?_⟩
  · rw [h1]
    by_cases e : v = w
    · subst e; rw [upd_s]; simp [rset, rv]
    · rw [upd_n e, r1 v hv]; simp [rset, e]
  · rw [h2, uA_set hw8 hn]
    by_cases e : m' = m
    · subst e; rw [upd_s, (r2 m' hm').1, a1, J_add, if_pos rfl]
    · rw [upd_n e, (r2 m' hm').1, if_neg e, Int.add_zero]
  · rw [h3, uB_set hw8 hn]
    by_cases e : m' = m
    · subst e; rw [upd_s, (r2 m' hm').2.1, a2, J_add, if_pos rfl]
    · rw [upd_n e, (r2 m' hm').2.1, if_neg e, Int.add_zero]
  · rw [h4, cn_set hw8 hn]
    by_cases e : m' = m
    · subst e; rw [upd_s, (r2 m' hm').2.2.1, J1, J_add, if_pos rfl]
    · rw [upd_n e, (r2 m' hm').2.2.1, if_neg e, Int.add_zero]
  · rw [h5]
    by_cases e : m' = m
    · subst e
      rw [upd_s, (r2 m' hm').2.2.2, a6]
      by_cases ek : kd K w = 1
      · rw [if_pos ek]
        have hb := (hK.2.2.2 w hw).2.2.2.2.2.2.2 (Or.inl ek)
        rw [tw_or _ _ hb.1 hb.2]
        exact tw_ext (fun g _ => by rw [ht_set hw8 hn]; simp [ek])
      · rw [if_neg ek, (tw_z _).1]
        exact tw_ext (fun g _ => by rw [ht_set hw8 hn]; simp [ek])
    · rw [upd_n e, (r2 m' hm').2.2.2]
      exact tw_ext (fun g _ => by rw [ht_set hw8 hn]; simp [e])
  · rw [h6, (r2 m hm).2.2.1, r3, oc_set hw8 hm hn]
    have hc := cn_bd ρ m
    by_cases e : cn ρ m = 0
    · rw [if_pos (by rw [e]; rfl), if_pos e, J1, J_add]
    · rw [if_neg (by rw [J0, J_eq (by omega) (by omega) (by omega) (by omega)]; exact e), if_neg e, Int.add_zero]
theorem put_spec {σ : SS} {r : Nat} {K : Kt} {ρ : Ro} {w m : Nat} (N : Nat) (hr : 13 ≤ r) (hK : KOk K) (hS : StRep σ K) (hR : RowRep σ r K ρ) (hw : w < kW K) (hm : m < 5) (hn : ρ w = none) : ∃ σ1, fX1_put N r (J w) (J m) σ = some σ1 ∧ RowRep σ1 r K (rset ρ w (some m)) ∧ Keep r (r + 5) σ σ1 := by
  have hw8 : w < 8 := Nat.lt_of_lt_of_le hw hK.2.1
  unfold fX1_put fX1_put_80
  simp (disch := omega) only [ck_J, sg, J_nn, stp_s, stp_n, upd_s, upd_n]
  by_cases hz : σ (r + 4) m = 0
  · rw [if_pos hz]
    refine ⟨_, rfl, put_core hK hS hR hw hm hn ?_ ?_ ?_ ?_ ?_ ?_, fun k hk => ?_⟩
    all_goals simp (disch := omega) only [stp_s, stp_n, upd_s, if_pos hz]
  · rw [if_neg hz]
    refine ⟨_, rfl, put_core hK hS hR hw hm hn ?_ ?_ ?_ ?_ ?_ ?_, fun k hk => ?_⟩
    all_goals simp (disch := omega) only [stp_s, stp_n, upd_s, if_neg hz]
