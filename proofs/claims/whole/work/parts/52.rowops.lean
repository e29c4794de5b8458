theorem cali_s {α : Type} {v : Int32} {σ : SS} {k : Int32 → SS → Option α} : cali (some (v, σ)) k = k v σ := rfl
theorem call_s {α : Type} {v : Int64} {σ : SS} {k : Int64 → SS → Option α} : call (some (v, σ)) k = k v σ := rfl
theorem calv_s {α : Type} {σ : SS} {k : SS → Option α} : calv (some σ) k = k σ := rfl
theorem zk1 {α : Type} {k : Option α} : zk 1 k = k := rfl
theorem zk0 {α : Type} {k : Option α} : zk 0 k = k := rfl
def bz (b : Bool) : Int32 := if b then 1 else 0
theorem bz_t : bz true = 1 := rfl
theorem bz_f : bz false = 0 := rfl
theorem rset_none {ρ : Ro} {w m : Nat} (h : ρ w = some m) : rset (rset ρ w none) w (some m) = ρ := by
  funext v
  by_cases e : v = w
  · subst e; simp [rset, h]
  · simp [rset, e]
theorem rset_self {ρ : Ro} {w : Nat} {o : Option Nat} : rset ρ w o w = o := by simp [rset]
theorem rset_back {ρ : Ro} {w m : Nat} (h : ρ w = none) : rset (rset ρ w (some m)) w none = ρ := by
  funext v
  by_cases e : v = w
  · subst e; simp [rset, h]
  · simp [rset, e]
theorem remove_core {σ σ1 : SS} {r : Nat} {K : Kt} {ρ : Ro} {w m : Nat} (hK : KOk K) (hS : StRep σ K) (hR : RowRep σ r K ρ) (hT : TwApart K ρ) (hw : w < kW K) (hm : m < 5) (hn : ρ w = some m)
    (h1 : σ1 (r + 1) = upd (σ (r + 1)) w (-1)) (h2 : σ1 (r + 2) = upd (σ (r + 2)) m (σ (r + 2) m - σ 4 w)) (h3 : σ1 (r + 3) = upd (σ (r + 3)) m (σ (r + 3) m - σ 5 w)) (h4 : σ1 (r + 4) = upd (σ (r + 4)) m (σ (r + 4) m - 1)) (h5 : σ1 (r + 5) = upd (σ (r + 5)) m (σ (r + 5) m &&& (σ 8 w ^^^ -1))) (h6 : σ1 r 6 = if σ (r + 4) m - 1 = 0 then σ r 6 - 1 else σ r 6) : RowRep σ1 r K (rset ρ w none) := by
  have hw8 : w < 8 := Nat.lt_of_lt_of_le hw hK.2.1
  obtain ⟨r1, r2, r3⟩ := hR
  obtain ⟨-, -, -, s4, -⟩ := hS
  obtain ⟨a1, a2, a3, a4, a5, a6, -⟩ := s4 w hw
  have eρ := rset_none hn
  have hn0 : (rset ρ w none) w = none := rset_self
  generalize hρ0 : rset ρ w none = ρ0 at eρ hn0
  have eA := fun m' => uA_set (K := K) (m := m) hw8 hn0 m'
  have eB := fun m' => uB_set (K := K) (m := m) hw8 hn0 m'
  have eC := fun m' => cn_set (m := m) hw8 hn0 m'
  have eO := oc_set hw8 hm hn0
  have eH := fun m' g => ht_set (K := K) (m := m) hw8 hn0 m' g
  rw [eρ] at eA eB eC eO eH
  refine ⟨fun v hv => ?_, fun m' hm' => ⟨?_, ?_, ?_, ?_⟩, ?_⟩
  · rw [h1]
    by_cases e : v = w
    · subst e; rw [upd_s, hn0]; rfl
    · rw [upd_n e, r1 v hv, ← eρ]; simp [rset, e]
  · rw [h2]
    by_cases e : m' = m
    · subst e; rw [upd_s, (r2 m' hm').1, a1, J_sub, eA, if_pos rfl]; congr 1; omega
    · rw [upd_n e, (r2 m' hm').1, eA, if_neg e, Int.add_zero]
  · rw [h3]
    by_cases e : m' = m
    · subst e; rw [upd_s, (r2 m' hm').2.1, a2, J_sub, eB, if_pos rfl]; congr 1; omega
    · rw [upd_n e, (r2 m' hm').2.1, eB, if_neg e, Int.add_zero]
  · rw [h4]
    by_cases e : m' = m
    · subst e; rw [upd_s, (r2 m' hm').2.2.1, J1, J_sub, eC, if_pos rfl]; congr 1; omega
    · rw [upd_n e, (r2 m' hm').2.2.1, eC, if_neg e, Int.add_zero]
  · rw [h5]
    by_cases e : m' = m
    · subst e
      rw [upd_s, (r2 m' hm').2.2.2, a6]
      by_cases ek : kd K w = 1
      · rw [if_pos ek]
        have hb := (hK.2.2.2 w hw).2.2.2.2.2.2.2 (Or.inl ek)
        rw [tw_clr _ _ hb.1 hb.2]
        refine tw_ext (fun g _ => ?_)
        rw [eH]
        by_cases eg : kg K w = (g : Int)
        · have : ht K ρ0 m' g = false := by
            simp only [ht, List.any_eq_false, List.mem_range, Bool.and_eq_true, beq_iff_eq, not_and]
            intro v hv h7 h8
            have hvw : w ≠ v := fun q => by subst q; rw [hn0] at h7; cases h7.1
            refine hT w v m' hvw ?_ hn ?_
            · simp [twin, ek, h7.2, eg, h8]
            · rw [← eρ]
              simp [rset, hvw.symm, h7.1]
          simp [this, eg]
        · have e2 : (kg K w == (g : Int)) = false := by simpa using eg
          rw [e2]; simp [ek]
      · rw [if_neg ek, (tw_z _).2.2]
        exact tw_ext (fun g _ => by rw [eH]; simp [ek])
    · rw [upd_n e, (r2 m' hm').2.2.2]
      exact tw_ext (fun g _ => by rw [eH]; simp [e])
  · rw [h6, (r2 m hm).2.2.1, r3, eO, eC, if_pos rfl, J1, J_sub, J0]
    have hc := cn_bd ρ0 m
    by_cases e : cn ρ0 m = 0
    · rw [if_pos (by rw [e]; rfl), if_pos e, J_sub]; congr 1; omega
    · rw [if_neg (by rw [J_eq (by omega) (by omega) (by omega) (by omega)]; omega), if_neg e, Int.add_zero]
theorem remove_spec {σ : SS} {r : Nat} {K : Kt} {ρ : Ro} {w : Nat} (N : Nat) (hr : 13 ≤ r) (hK : KOk K) (hS : StRep σ K) (hR : RowRep σ r K ρ) (hρ : RoOk K ρ) (hT : TwApart K ρ) (hw : w < kW K) : ∃ σ1, fX1_remove N r (J w) σ = some σ1 ∧ RowRep σ1 r K (rset ρ w none) ∧ Keep r (r + 5) σ σ1 := by
  have hw8 : w < 8 := Nat.lt_of_lt_of_le hw hK.2.1
  have h0 := hR.1 w (Or.inl hw)
  unfold fX1_remove fX1_remove_105
  cases hn : ρ w with
  | none =>
    rw [hn] at h0
    simp (disch := omega) only [ck_J, J_nn, h0]
    have e : rset ρ w none = ρ := by
      funext v
      by_cases e : v = w
      · subst e; simp [rset, hn]
      · simp [rset, e]
    rw [e]
    exact ⟨σ, rfl, hR, Keep.rfl⟩
  | some m =>
    rw [hn] at h0
    have hm := (hρ w m hn).2
    have hm5 : m < 5 := Nat.lt_of_lt_of_le hm hK.1
    have hne : ¬ J (m : Int) = -1 := by rw [Jm1, J_eq (by omega) (by omega) (by omega) (by omega)]; omega
    simp only [rv] at h0
    simp (disch := omega) only [ck_J, sg, J_nn, h0, if_neg hne, stp_s, stp_n, upd_s, upd_n]
    by_cases hz : σ (r + 4) m - 1 = 0
    · rw [if_pos hz]
      refine ⟨_, rfl, remove_core hK hS hR hT hw hm5 hn ?_ ?_ ?_ ?_ ?_ ?_, fun k hk => ?_⟩
      all_goals simp (disch := omega) only [stp_s, stp_n, upd_s, if_pos hz]
    · rw [if_neg hz]
      refine ⟨_, rfl, remove_core hK hS hR hT hw hm5 hn ?_ ?_ ?_ ?_ ?_ ?_, fun k hk => ?_⟩
      all_goals simp (disch := omega) only [stp_s, stp_n, upd_s, if_neg hz]
theorem freeA_spec {σ : SS} {r : Nat} {K : Kt} {ρ : Ro} {m : Nat} (N : Nat) (hK : KOk K) (hS : StRep σ K) (hR : RowRep σ r K ρ) (hm : m < kM K) : fX1_freeA N r (J m) σ = some (J (kRA K m - uA K ρ m), σ) := by
  have hm5 : m < 5 := Nat.lt_of_lt_of_le hm hK.1
  unfold fX1_freeA
  simp (disch := omega) only [ck_J, J_nn, (hS.2.2.1 m hm).1, (hR.2.1 m hm5).1, J_sub]
theorem freeB_spec {σ : SS} {r : Nat} {K : Kt} {ρ : Ro} {m : Nat} (N : Nat) (hK : KOk K) (hS : StRep σ K) (hR : RowRep σ r K ρ) (hm : m < kM K) : fX1_freeB N r (J m) σ = some (J (kRB K m - uB K ρ m), σ) := by
  have hm5 : m < 5 := Nat.lt_of_lt_of_le hm hK.1
  unfold fX1_freeB
  simp (disch := omega) only [ck_J, J_nn, (hS.2.2.1 m hm).2, (hR.2.1 m hm5).2.1, J_sub]
/-- whether a row takes a work of needs a, b, of that kind and group, with that leader -/
def tk (K : Kt) (ρ : Ro) (w m : Nat) (a b : Int) (k : Nat) (g : Int) (ld : Nat) : Bool := decide (a ≤ kRA K m - uA K ρ m) && decide (b ≤ kRB K m - uB K ρ m) && (!(k == 1) || !(ht K ρ m g.toNat)) && (ld == w || ρ ld == some m)
theorem takes_spec {σ : SS} {r : Nat} {K : Kt} {ρ : Ro} {w m : Nat} {a b g : Int} {k ld : Nat} (N : Nat) (hr : 13 ≤ r) (hK : KOk K) (hS : StRep σ K) (hR : RowRep σ r K ρ) (hρ : RoOk K ρ) (hw : w < 9) (hm : m < kM K) (hl : ld = w ∨ ld < kW K)
    (h4 : σ 4 w = J a) (h5 : σ 5 w = J b) (h8 : σ 8 w = (if k = 1 then bitOf g else 0)) (h10 : σ 10 w = J ld) (ha : 0 ≤ a ∧ a ≤ 1000) (hb : 0 ≤ b ∧ b ≤ 1000) (hg : k = 1 → 0 ≤ g ∧ g < 4) : fX1_takes N r (J w) (J m) σ = some (bz (tk K ρ w m a b k g ld), σ) := by
  have hm5 : m < 5 := Nat.lt_of_lt_of_le hm hK.1
  have hA := uA_bd hK hρ m
  have hB := uB_bd hK hρ m
  have hrm := hK.2.2.1 m hm
  have hWk := hK.2.1
  unfold fX1_takes fX1_takes_78 fX1_takes_82 fX1_takes_83
  simp (disch := omega) only [ck_J, J_nn, freeA_spec N hK hS hR hm, freeB_spec N hK hS hR hm, cali_s, h4, h5, h8, h10, J_lt, zk0, zk1]
  unfold tk
  by_cases c1 : kRA K m - uA K ρ m < a
  · rw [if_pos c1, decide_eq_false (by omega)]; rfl
  rw [if_neg c1, decide_eq_true (by omega : a ≤ kRA K m - uA K ρ m)]
  by_cases c2 : kRB K m - uB K ρ m < b
  · rw [if_pos c2, decide_eq_false (by omega)]; rfl
  rw [if_neg c2, decide_eq_true (by omega : b ≤ kRB K m - uB K ρ m), (hR.2.1 m hm5).2.2.2]
  have key : (tw (fun g => ht K ρ m g) &&& (if k = 1 then bitOf g else 0) = 0) ↔ (!(k == 1) || !(ht K ρ m g.toNat)) = true := by
    by_cases ek : k = 1
    · rw [if_pos ek, tw_and _ _ (hg ek).1 (hg ek).2]
      simp [ek]
    · rw [if_neg ek, (tw_z _).2.1]
      simp [ek]
  by_cases c3 : (!(k == 1) || !(ht K ρ m g.toNat)) = true
  · rw [if_pos (key.mpr c3), c3]
    by_cases c4 : ld = w
    · subst c4
      rw [if_pos rfl]
      simp [bz]
    · have hl8 : ld < 8 := by omega
      rw [if_neg (by rw [J_eq (by omega) (by omega) (by omega) (by omega)]; omega), ck_J (by omega) (by omega) (by omega), hR.1 ld (by omega)]
      have e1 : (ld == w) = false := by simp [c4]
      rw [e1]
      cases hq : ρ ld with
      | none =>
        rw [if_neg (by show ¬ J (-1) = J (m : Int); rw [J_eq (by omega) (by omega) (by omega) (by omega)]; omega)]
        rfl
      | some x =>
        have hx5 : x < 5 := Nat.lt_of_lt_of_le (hρ ld x hq).2 hK.1
        by_cases e : x = m
        · subst e
          rw [if_pos (show rv (some x) = J (x : Int) from rfl)]
          simp [bz]
        · rw [if_neg (by show ¬ J (x : Int) = J (m : Int); rw [J_eq (by omega) (by omega) (by omega) (by omega)]; omega)]
          simp [bz, e]
  · rw [if_neg (fun q => c3 (key.mp q))]
    have : (!(k == 1) || !(ht K ρ m g.toNat)) = false := by simpa using c3
    rw [this]
    rfl
