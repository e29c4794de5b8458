theorem cpy_in {f g : Nat → Int32} {n k : Nat} (h : k < n) : va_cpy f g 0 0 n k = f k := by
  unfold va_cpy
  rw [if_pos (by omega)]
  congr 1
  omega
theorem copy_spec {σ : SS} {K : Kt} {ρ : Ro} (N : Nat) (hK : KOk K) (hR : RowRep σ 13 K ρ) : ∃ σ1, fX1_copy N 33 13 σ = some σ1 ∧ RowRep σ1 33 K ρ ∧ Keep 33 38 σ σ1 := by
  unfold fX1_copy
  simp only [sg]
  refine ⟨_, rfl, ⟨fun w hw => ?_, fun m hm => ⟨?_, ?_, ?_, ?_⟩, ?_⟩, fun k hk => ?_⟩
  · have hWk := hK.2.1
    have hw8 : w < 8 := by omega
    simp (disch := omega) only [stp_s, stp_n, cpy_in]; exact hR.1 w (by omega)
  · simp (disch := omega) only [stp_s, stp_n, cpy_in]; exact (hR.2.1 m hm).1
  · simp (disch := omega) only [stp_s, stp_n, cpy_in]; exact (hR.2.1 m hm).2.1
  · simp (disch := omega) only [stp_s, stp_n, cpy_in]; exact (hR.2.1 m hm).2.2.1
  · simp (disch := omega) only [stp_s, stp_n, cpy_in]; exact (hR.2.1 m hm).2.2.2
  · simp (disch := omega) only [stp_s, stp_n, upd_s]; exact hR.2.2
  · simp (disch := omega) only [stp_n]
def emp : Ro := fun _ => none
theorem uA_emp {K : Kt} {m : Nat} : uA K emp m = 0 := sm_zero (fun _ _ => by simp [emp])
theorem uB_emp {K : Kt} {m : Nat} : uB K emp m = 0 := sm_zero (fun _ _ => by simp [emp])
theorem cn_emp {m : Nat} : cn emp m = 0 := sm_zero (fun _ _ => by simp [emp])
theorem oc_emp : oc emp = 0 := sm_zero (fun _ _ => by simp [cn_emp])
theorem ht_emp {K : Kt} {m g : Nat} : ht K emp m g = false := by simp [ht, emp]
theorem emp_ok {K : Kt} : RoOk K emp := fun _ _ h => by cases h
theorem emp_tw {K : Kt} : TwApart K emp := fun _ _ _ _ _ h => by cases h
theorem clear2_loop {r : Nat} {K : Kt} (N : Nat) (hWk : kW K ≤ 8) : ∀ (d j n : Nat) (σ : SS), j + d = 5 → d < n → (∀ w, w < 8 → σ (r + 1) w = J (-1)) → (∀ m, m < j → σ (r + 2) m = 0 ∧ σ (r + 3) m = 0 ∧ σ (r + 4) m = 0 ∧ σ (r + 5) m = 0) → ∃ σ1, lp (fX1_clear_23 N r) (fun _ _ => none) n (J j) σ = some σ1 ∧ RowRep σ1 r K emp ∧ Keep r (r + 5) σ σ1 := by
  intro d
  induction d with
  | zero =>
    intro j n σ hj hn h1 h2
    obtain ⟨n, rfl⟩ : ∃ n', n = n' + 1 := ⟨n - 1, by omega⟩
    rw [lp_succ]
    unfold fX1_clear_23
    rw [J5, if_pos (by rw [J_le (by omega) (by omega) (by omega) (by omega)]; omega)]
    simp only [sg]
    refine ⟨_, rfl, ⟨fun w hw => ?_, fun m hm => ⟨?_, ?_, ?_, ?_⟩, ?_⟩, fun k hk => ?_⟩
    · simp (disch := omega) only [stp_n]; exact h1 w (by omega)
    · simp (disch := omega) only [stp_n, uA_emp]; exact (h2 m (by omega)).1
    · simp (disch := omega) only [stp_n, uB_emp]; exact (h2 m (by omega)).2.1
    · simp (disch := omega) only [stp_n, cn_emp]; exact (h2 m (by omega)).2.2.1
    · simp (disch := omega) only [stp_n]; rw [(h2 m (by omega)).2.2.2]; simp only [ht_emp]; decide
    · simp (disch := omega) only [stp_s, upd_s, oc_emp]; rfl
    · simp (disch := omega) only [stp_n]
  | succ d ih =>
    intro j n σ hj hn h1 h2
    obtain ⟨n, rfl⟩ : ∃ n', n = n' + 1 := ⟨n - 1, by omega⟩
    rw [lp_succ, fX1_clear_23, J5, if_neg (by rw [J_le (by omega) (by omega) (by omega) (by omega)]; omega)]
    simp (disch := omega) only [ck_J, sg, J_nn, J1, J_add, stp_n]
    obtain ⟨σ1, q, R, k⟩ := ih (j + 1) n (stp (stp (stp (stp σ (r + 2) (upd (σ (r + 2)) j 0)) (r + 3) (upd (σ (r + 3)) j 0)) (r + 4) (upd (σ (r + 4)) j 0)) (r + 5) (upd (σ (r + 5)) j 0)) (by omega) (by omega) (fun w hw => by simp (disch := omega) only [stp_n]; exact h1 w hw) (fun m hm => by
      by_cases e : m = j
      · subst e
        simp (disch := omega) only [stp_n, stp_s, upd_s, and_self]
      · simp (disch := omega) only [stp_n, stp_s, upd_n]
        exact h2 m (by omega))
    exact ⟨σ1, q, R, fun x hx => by rw [k x hx]; simp (disch := omega) only [stp_n]⟩
theorem clear1_loop {r : Nat} {K : Kt} (N : Nat) (hWk : kW K ≤ 8) (hN : 10 ≤ N) : ∀ (d j n : Nat) (σ : SS), j + d = 8 → d < n → (∀ w, w < j → σ (r + 1) w = J (-1)) → ∃ σ1, lp (fX1_clear_2 N r) (fun _ _ => none) n (J j) σ = some σ1 ∧ RowRep σ1 r K emp ∧ Keep r (r + 5) σ σ1 := by
  intro d
  induction d with
  | zero =>
    intro j n σ hj hn h1
    obtain ⟨n, rfl⟩ : ∃ n', n = n' + 1 := ⟨n - 1, by omega⟩
    rw [lp_succ]
    unfold fX1_clear_2
    rw [J8, if_pos (by rw [J_le (by omega) (by omega) (by omega) (by omega)]; omega)]
    exact clear2_loop N hWk 5 0 N σ (by omega) (by omega) (fun w hw => h1 w (by omega)) (fun m hm => absurd hm (by omega))
  | succ d ih =>
    intro j n σ hj hn h1
    obtain ⟨n, rfl⟩ : ∃ n', n = n' + 1 := ⟨n - 1, by omega⟩
    rw [lp_succ]
    unfold fX1_clear_2
    rw [J8, if_neg (by rw [J_le (by omega) (by omega) (by omega) (by omega)]; omega)]
    simp (disch := omega) only [ck_J, sg, J_nn, J1, J_add]
    obtain ⟨σ1, q, R, k⟩ := ih (j + 1) n (stp σ (r + 1) (upd (σ (r + 1)) j (-1))) (by omega) (by omega) (fun w hw => by
      by_cases e : w = j
      · subst e; rw [stp_s, upd_s]; rfl
      · rw [stp_s, upd_n e]; exact h1 w (by omega))
    exact ⟨σ1, q, R, fun x hx => by rw [k x hx]; simp (disch := omega) only [stp_n]⟩
theorem clear_spec {σ : SS} {r : Nat} (K : Kt) {N : Nat} (hWk : kW K ≤ 8) (hN : 10 ≤ N) : ∃ σ1, fX1_clear N r σ = some σ1 ∧ RowRep σ1 r K emp ∧ Keep r (r + 5) σ σ1 := clear1_loop N hWk hN 8 0 N σ (by omega) (by omega) (fun w hw => absurd hw (by omega))
def RowAt (σ : SS) (q : Nat) (π : Ro) : Prop := ∀ w, w < 8 → σ q w = rv (π w)
theorem rv_none {o : Option Nat} (h : ∀ m, o = some m → m < 2147483647) : rv o = J (-1) ↔ o = none := by
  cases o with
  | none => simp [rv]
  | some m =>
    have := h m rfl
    simp only [rv, reduceCtorEq, iff_false]
    rw [J_eq (by omega) (by omega) (by omega) (by omega)]
    omega
theorem rv_inj {o o1 : Option Nat} (h : ∀ m, o = some m → m < 2147483647) (h1 : ∀ m, o1 = some m → m < 2147483647) : rv o = rv o1 ↔ o = o1 := by
  cases o1 with
  | none => exact rv_none h
  | some x =>
    have hx := h1 x rfl
    cases o with
    | none =>
      simp only [rv, reduceCtorEq, iff_false]
      rw [J_eq (by omega) (by omega) (by omega) (by omega)]
      omega
    | some m =>
      have := h m rfl
      simp only [rv, Option.some.injEq]
      rw [J_eq (by omega) (by omega) (by omega) (by omega)]
      omega
/-- a block that moves from row to row -/
def mvd (K : Kt) (ρ π : Ro) (w : Nat) : Bool := blk K w == w && (ρ w).isSome && (π w).isSome && π w != ρ w
theorem isMovedIn_spec {σ : SS} {r q : Nat} {K : Kt} {ρ π : Ro} {w : Nat} (N : Nat) (hK : KOk K) (hS : StRep σ K) (hR : RowRep σ r K ρ) (hρ : RoOk K ρ) (hQ : RowAt σ q π) (hπ : RoOk K π) (hw : w < kW K) : fX1_isMovedIn N r q (J w) σ = some (bz (mvd K ρ π w), σ) := by
  have hW := hK.2.1
  have hM := hK.1
  obtain ⟨-, -, -, -, -, -, -, h10, -⟩ := hS.2.2.2.1 w hw
  have hb := blk_le K w
  have b1 : ∀ m, ρ w = some m → m < 2147483647 := fun m h => by have := (hρ w m h).2; omega
  have b2 : ∀ m, π w = some m → m < 2147483647 := fun m h => by have := (hπ w m h).2; omega
  unfold fX1_isMovedIn fX1_isMovedIn_46 fX1_isMovedIn_47
  simp (disch := omega) only [ck_J, J_nn, h10, hR.1 w (by omega), hQ w (by omega), zk0, zk1, J_eq, Jm1]
  unfold mvd
  by_cases c1 : blk K w = w
  · rw [if_pos (by omega)]
    by_cases c2 : ρ w = none
    · rw [if_pos ((rv_none b1).mpr c2), c2]
      simp [bz]
    · rw [if_neg (fun q => c2 ((rv_none b1).mp q))]
      by_cases c3 : π w = none
      · rw [if_pos ((rv_none b2).mpr c3), c3]
        simp [bz]
      · rw [if_neg (fun q => c3 ((rv_none b2).mp q))]
        have i2 : (ρ w).isSome = true := by cases h : ρ w with | none => exact absurd h c2 | some x => rfl
        have i3 : (π w).isSome = true := by cases h : π w with | none => exact absurd h c3 | some x => rfl
        by_cases c4 : π w = ρ w
        · rw [if_pos ((rv_inj b2 b1).mpr c4)]
          simp [bz, c4]
        · rw [if_neg (fun q => c4 ((rv_inj b2 b1).mp q))]
          have : (π w != ρ w) = true := by simp [c4]
          simp [bz, c1, i2, i3, this]
  · rw [if_neg (by omega)]
    have : (blk K w == w) = false := by simp [c1]
    rw [this]
    rfl
theorem moveCost_spec {σ : SS} {K : Kt} {b : Nat} (N : Nat) (hK : KOk K) (hS : StRep σ K) (hb : b < kW K) : fX3_moveCost N (J b) σ = some (J (bA K b + bB K b), σ) := by
  have hW := hK.2.1
  obtain ⟨-, -, -, -, -, -, -, -, h11, h12⟩ := hS.2.2.2.1 b hb
  unfold fX3_moveCost
  simp (disch := omega) only [ck_J, J_nn, h11, h12, J_add]
theorem bz_eq0 {b : Bool} : bz b = 0 ↔ b = false := by cases b <;> decide
def cst (K : Kt) (ρ π : Ro) (n : Nat) : Int := sm n (fun w => if mvd K ρ π w then bA K w + bB K w else 0)
theorem costTo_spec {σ : SS} {r q : Nat} {K : Kt} {ρ π : Ro} {N : Nat} (hN : 10 ≤ N) (hK : KOk K) (hS : StRep σ K) (hR : RowRep σ r K ρ) (hρ : RoOk K ρ) (hQ : RowAt σ q π) (hπ : RoOk K π) : fX1_costTo N r q σ = some (J (cst K ρ π (kW K)), σ) := by
  have hW := hK.2.1
  have key : ∀ (d j n : Nat), j + d = kW K → d < n → lp (fX1_costTo_4 N r q) (fun _ _ _ => none) n (J (cst K ρ π j)) (J j) σ = some (J (cst K ρ π (kW K)), σ) := by
    intro d
    induction d with
    | zero =>
      intro j n hj hn
      obtain ⟨n, rfl⟩ : ∃ n', n = n' + 1 := ⟨n - 1, by omega⟩
      rw [lp_succ]
      unfold fX1_costTo_4
      rw [hS.2.1, if_pos (by rw [J_le (by omega) (by omega) (by omega) (by omega)]; omega)]
      have : j = kW K := by omega
      subst this
      rfl
    | succ d ih =>
      intro j n hj hn
      obtain ⟨n, rfl⟩ : ∃ n', n = n' + 1 := ⟨n - 1, by omega⟩
      rw [lp_succ, fX1_costTo_4, hS.2.1, if_neg (by rw [J_le (by omega) (by omega) (by omega) (by omega)]; omega), isMovedIn_spec N hK hS hR hρ hQ hπ (by omega), cali_s]
      have e : cst K ρ π (j + 1) = cst K ρ π j + (if mvd K ρ π j then bA K j + bB K j else 0) := rfl
      cases hm : mvd K ρ π j with
      | false =>
        rw [hm, if_neg (by decide), Int.add_zero] at e
        rw [if_pos bz_f, fX1_costTo_35, J1, J_add]
        have := ih (j + 1) n (by omega) (by omega)
        rw [e] at this
        exact this
      | true =>
        rw [hm, if_pos rfl] at e
        rw [if_neg (by decide), moveCost_spec N hK hS (by omega), cali_s, fX1_costTo_35, J1, J_add, J_add]
        have := ih (j + 1) n (by omega) (by omega)
        rw [e] at this
        exact this
  exact key (kW K) 0 N (by omega) (by omega)
