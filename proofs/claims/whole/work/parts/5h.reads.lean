theorem J_ex (a : Int32) : ∃ x : Int, a = J x ∧ -2147483648 ≤ x ∧ x < 2147483648 := by
  refine ⟨a.toInt, (J_of a).symm, ?_, ?_⟩
  · have := Int32.le_toInt a; omega
  · have := Int32.toInt_lt a; omega
theorem isAmount_spec {σ : SS} (N : Nat) {x : Int} (h1 : -2147483648 ≤ x ∧ x < 2147483648) : fX5_isAmount N (J x) σ = some (bz (decide (0 ≤ x) && decide (x ≤ 1000)), σ) := by
  rw [fX5_isAmount, fX5_isAmount_15, fX5_isAmount_16, fX5_isAmount_16, J0, J1000]
  have e1 := J_lt (a := x) (b := 0) h1.1 h1.2 (by omega) (by omega)
  have e2 := J_lt (a := 1000) (b := x) (by omega) (by omega) h1.1 h1.2
  by_cases c1 : x < 0
  · rw [if_pos (e1.mpr c1), decide_eq_false (by omega)]; rfl
  · rw [if_neg (fun q => c1 (e1.mp q)), decide_eq_true (by omega : 0 ≤ x)]
    by_cases c2 : 1000 < x
    · rw [if_pos (e2.mpr c2), decide_eq_false (by omega)]; rfl
    · rw [if_neg (fun q => c2 (e2.mp q)), decide_eq_true (by omega : x ≤ 1000)]; rfl
theorem hasMachine_spec {σ : SS} {K : Kt} (N : Nat) (hK : KOk K) (hS : StRep σ K) {x : Int} (h1 : -2147483648 ≤ x ∧ x < 2147483648) : fX3_hasMachine N (J x) σ = some (bz (decide (0 ≤ x) && decide (x ≤ (kM K : Int) - 1)), σ) := by
  have hM := hK.1
  rw [fX3_hasMachine, fX3_hasMachine_16, fX3_hasMachine_17, fX3_hasMachine_17, J0, hS.1]
  have e1 := J_lt (a := x) (b := 0) h1.1 h1.2 (by omega) (by omega)
  have e2 := J_le (a := (kM K : Int)) (b := x) (by omega) (by omega) h1.1 h1.2
  by_cases c1 : x < 0
  · rw [if_pos (e1.mpr c1), decide_eq_false (by omega)]; rfl
  · rw [if_neg (fun q => c1 (e1.mp q)), decide_eq_true (by omega : 0 ≤ x)]
    by_cases c2 : (kM K : Int) ≤ x
    · rw [if_pos (e2.mpr c2), decide_eq_false (by omega)]; rfl
    · rw [if_neg (fun q => c2 (e2.mp q)), decide_eq_true (by omega : x ≤ (kM K : Int) - 1)]; rfl
theorem hasWork_spec {σ : SS} {K : Kt} (N : Nat) (hK : KOk K) (hS : StRep σ K) {x : Int} (h1 : -2147483648 ≤ x ∧ x < 2147483648) : fX3_hasWork N (J x) σ = some (bz (decide (0 ≤ x) && decide (x ≤ (kW K : Int) - 1)), σ) := by
  have hM := hK.2.1
  rw [fX3_hasWork, fX3_hasWork_16, fX3_hasWork_17, fX3_hasWork_17, J0, hS.2.1]
  have e1 := J_lt (a := x) (b := 0) h1.1 h1.2 (by omega) (by omega)
  have e2 := J_le (a := (kW K : Int)) (b := x) (by omega) (by omega) h1.1 h1.2
  by_cases c1 : x < 0
  · rw [if_pos (e1.mpr c1), decide_eq_false (by omega)]; rfl
  · rw [if_neg (fun q => c1 (e1.mp q)), decide_eq_true (by omega : 0 ≤ x)]
    by_cases c2 : (kW K : Int) ≤ x
    · rw [if_pos (e2.mpr c2), decide_eq_false (by omega)]; rfl
    · rw [if_neg (fun q => c2 (e2.mp q)), decide_eq_true (by omega : x ≤ (kW K : Int) - 1)]; rfl
theorem isMachine_spec {τ : SS} {K : Kt} (N : Nat) (hK : KOk K) (hR : MdRep τ K) {x : Int} (h1 : -2147483648 ≤ x ∧ x < 2147483648) : fX6_isMachine N (J x) τ = some (bz (decide (0 ≤ x) && decide (x ≤ (kM K : Int) - 1)), τ) := by
  have hM := hK.1
  rw [fX6_isMachine, hR.1, J1, J_sub, J0, in_spec N h1 (by omega) (by omega), cali_s]
  cases (decide (0 ≤ x) && decide (x ≤ (kM K : Int) - 1)) <;> rfl
theorem bz_split {lo x hi : Int} : (decide (lo ≤ x) && decide (x ≤ hi)) = false ∨ ((decide (lo ≤ x) && decide (x ≤ hi)) = true ∧ lo ≤ x ∧ x ≤ hi) := by
  cases e : (decide (lo ≤ x) && decide (x ≤ hi)) with
  | false => exact Or.inl rfl
  | true =>
    simp only [Bool.and_eq_true, decide_eq_true_eq] at e
    exact Or.inr ⟨rfl, e⟩
/-- a sum over the works that stand on a machine -/
theorem onM {τ : SS} {K : Kt} {h : Ro} {w m : Nat} (hK : KOk K) (hh : RoOk K h) (hO : MdOv τ K (ovf h)) (hA : MdAt τ K 7 h) (hw : w < kW K) (hm : m < 5) : (h w = some m → τ 8 w = 0 ∧ τ 7 w = J (m : Int)) ∧ (h w ≠ some m → τ 8 w ≠ 0 ∨ τ 7 w ≠ J (m : Int)) := by
  have hM := hK.1
  constructor
  · intro e
    refine ⟨?_, hA w m hw e⟩
    rw [hO w hw]; unfold ovf; rw [e]; rfl
  · intro e
    cases q : h w with
    | none => left; rw [hO w hw]; unfold ovf; rw [q]; decide
    | some x =>
      right
      have := (hh w x q).2
      rw [hA w x hw q]
      rw [ne_eq, J_eq (by omega) (by omega) (by omega) (by omega)]
      intro z
      exact e (by rw [q]; congr 1; omega)
theorem mfreeA_spec {τ : SS} {K : Kt} {h : Ro} {m N : Nat} (hN : 10 ≤ N) (hK : KOk K) (hh : RoOk K h) (hR : MdRep τ K) (hO : MdOv τ K (ovf h)) (hA : MdAt τ K 7 h) (hm : m < kM K) : fX6_freeA N (J m) τ = some (J (kRA K m - uA K h m), τ) := by
  have hW := hK.2.1
  have hM := hK.1
  have key : ∀ (d j n : Nat), j + d = kW K → d < n → lp (fX6_freeA_9 N) (fun _ _ _ _ => none) n (J m) (J (kRA K m - sm j (fun w => if h w = some m then kA K w else 0))) (J j) τ = some (J (kRA K m - sm (kW K) (fun w => if h w = some m then kA K w else 0)), τ) := by
    intro d
    induction d with
    | zero =>
      intro j n hj hn
      obtain ⟨n, rfl⟩ : ∃ n', n = n' + 1 := ⟨n - 1, by omega⟩
      rw [lp_succ, fX6_freeA_9, hR.2.1, if_pos ((J_le (by omega) (by omega) (by omega) (by omega)).mpr (by omega))]
      have : j = kW K := by omega
      subst this
      rfl
    | succ d ih =>
      intro j n hj hn
      obtain ⟨n, rfl⟩ : ∃ n', n = n' + 1 := ⟨n - 1, by omega⟩
      have hx := ih (j + 1) n (by omega) (by omega)
      have es : sm (j + 1) (fun w => if h w = some m then kA K w else 0) = sm j (fun w => if h w = some m then kA K w else 0) + (if h j = some m then kA K j else 0) := rfl
      rw [es] at hx
      have ho := onM (m := m) hK hh hO hA (by omega : j < kW K) (by omega)
      rw [lp_succ, fX6_freeA_9, hR.2.1, if_neg (fun q => by have := (J_le (by omega) (by omega) (by omega) (by omega)).mp q; omega)]
      simp (disch := omega) only [ck_J, J_nn]
      by_cases c : h j = some m
      · rw [if_pos (ho.1 c).1, if_pos (ho.1 c).2, fX6_freeA_47, (hR.2.2.2 j (by omega)).1, J_sub, J1, J_add]
        rw [if_pos c] at hx
        rw [show kRA K m - sm j (fun w => if h w = some m then kA K w else 0) - kA K j = kRA K m - (sm j (fun w => if h w = some m then kA K w else 0) + kA K j) by omega]
        exact hx
      · rw [if_neg c, Int.add_zero] at hx
        have e46 : fX6_freeA_46 N (lp (fX6_freeA_9 N) (fun _ _ _ _ => none) n) (J m) (J j) (J (kRA K m - sm j (fun w => if h w = some m then kA K w else 0))) τ = some (J (kRA K m - sm (kW K) (fun w => if h w = some m then kA K w else 0)), τ) := by
          rw [fX6_freeA_46, fX6_freeA_47, J0, J_sub, J1, J_add, Int.sub_zero]
          exact hx
        rcases ho.2 c with z | z
        · rw [if_neg z]; exact e46
        · by_cases z0 : τ 8 j = 0
          · rw [if_pos z0, if_neg z]; exact e46
          · rw [if_neg z0]; exact e46
  have h1 := key (kW K) 0 N (by omega) (by omega)
  have e : uA K h m = sm (kW K) (fun w => if h w = some m then kA K w else 0) := sm_ext (by omega) (fun i h1 h2 => by
    cases q : h i with
    | none => simp
    | some x => have := (hh i x q).1; omega)
  rw [fX6_freeA, ck_J (by omega) (by omega) (by omega), J_nn (by omega), (hR.2.2.1 m hm).1, e]
  have e0 : sm 0 (fun w => if h w = some m then kA K w else 0) = 0 := rfl
  rw [e0, Int.sub_zero] at h1
  exact h1
theorem mfreeB_spec {τ : SS} {K : Kt} {h : Ro} {m N : Nat} (hN : 10 ≤ N) (hK : KOk K) (hh : RoOk K h) (hR : MdRep τ K) (hO : MdOv τ K (ovf h)) (hA : MdAt τ K 7 h) (hm : m < kM K) : fX6_freeB N (J m) τ = some (J (kRB K m - uB K h m), τ) := by
  have hW := hK.2.1
  have hM := hK.1
  have key : ∀ (d j n : Nat), j + d = kW K → d < n → lp (fX6_freeB_9 N) (fun _ _ _ _ => none) n (J m) (J (kRB K m - sm j (fun w => if h w = some m then kB K w else 0))) (J j) τ = some (J (kRB K m - sm (kW K) (fun w => if h w = some m then kB K w else 0)), τ) := by
    intro d
    induction d with
    | zero =>
      intro j n hj hn
      obtain ⟨n, rfl⟩ : ∃ n', n = n' + 1 := ⟨n - 1, by omega⟩
      rw [lp_succ, fX6_freeB_9, hR.2.1, if_pos ((J_le (by omega) (by omega) (by omega) (by omega)).mpr (by omega))]
      have : j = kW K := by omega
      subst this
      rfl
    | succ d ih =>
      intro j n hj hn
      obtain ⟨n, rfl⟩ : ∃ n', n = n' + 1 := ⟨n - 1, by omega⟩
      have hx := ih (j + 1) n (by omega) (by omega)
      have es : sm (j + 1) (fun w => if h w = some m then kB K w else 0) = sm j (fun w => if h w = some m then kB K w else 0) + (if h j = some m then kB K j else 0) := rfl
      rw [es] at hx
      have ho := onM (m := m) hK hh hO hA (by omega : j < kW K) (by omega)
      rw [lp_succ, fX6_freeB_9, hR.2.1, if_neg (fun q => by have := (J_le (by omega) (by omega) (by omega) (by omega)).mp q; omega)]
      simp (disch := omega) only [ck_J, J_nn]
      by_cases c : h j = some m
      · rw [if_pos (ho.1 c).1, if_pos (ho.1 c).2, fX6_freeB_47, (hR.2.2.2 j (by omega)).2.1, J_sub, J1, J_add]
        rw [if_pos c] at hx
        rw [show kRB K m - sm j (fun w => if h w = some m then kB K w else 0) - kB K j = kRB K m - (sm j (fun w => if h w = some m then kB K w else 0) + kB K j) by omega]
        exact hx
      · rw [if_neg c, Int.add_zero] at hx
        have e46 : fX6_freeB_46 N (lp (fX6_freeB_9 N) (fun _ _ _ _ => none) n) (J m) (J j) (J (kRB K m - sm j (fun w => if h w = some m then kB K w else 0))) τ = some (J (kRB K m - sm (kW K) (fun w => if h w = some m then kB K w else 0)), τ) := by
          rw [fX6_freeB_46, fX6_freeB_47, J0, J_sub, J1, J_add, Int.sub_zero]
          exact hx
        rcases ho.2 c with z | z
        · rw [if_neg z]; exact e46
        · by_cases z0 : τ 8 j = 0
          · rw [if_pos z0, if_neg z]; exact e46
          · rw [if_neg z0]; exact e46
  have h1 := key (kW K) 0 N (by omega) (by omega)
  have e : uB K h m = sm (kW K) (fun w => if h w = some m then kB K w else 0) := sm_ext (by omega) (fun i h1 h2 => by
    cases q : h i with
    | none => simp
    | some x => have := (hh i x q).1; omega)
  rw [fX6_freeB, ck_J (by omega) (by omega) (by omega), J_nn (by omega), (hR.2.2.1 m hm).2, e]
  have e0 : sm 0 (fun w => if h w = some m then kB K w else 0) = 0 := rfl
  rw [e0, Int.sub_zero] at h1
  exact h1
theorem many_spec {τ : SS} {K : Kt} {h : Ro} {m N : Nat} (hN : 10 ≤ N) (hK : KOk K) (hh : RoOk K h) (hR : MdRep τ K) (hO : MdOv τ K (ovf h)) (hA : MdAt τ K 7 h) (hm : m < 5) : fX6_many N (J m) τ = some (J (cn h m), τ) := by
  have hW := hK.2.1
  have hM := hK.1
  have key : ∀ (d j n : Nat), j + d = kW K → d < n → lp (fX6_many_4 N) (fun _ _ _ _ => none) n (J m) (J (sm j (fun w => if h w = some m then 1 else 0))) (J j) τ = some (J (sm (kW K) (fun w => if h w = some m then 1 else 0)), τ) := by
    intro d
    induction d with
    | zero =>
      intro j n hj hn
      obtain ⟨n, rfl⟩ : ∃ n', n = n' + 1 := ⟨n - 1, by omega⟩
      rw [lp_succ, fX6_many_4, hR.2.1, if_pos ((J_le (by omega) (by omega) (by omega) (by omega)).mpr (by omega))]
      have : j = kW K := by omega
      subst this
      rfl
    | succ d ih =>
      intro j n hj hn
      obtain ⟨n, rfl⟩ : ∃ n', n = n' + 1 := ⟨n - 1, by omega⟩
      have hx := ih (j + 1) n (by omega) (by omega)
      have es : sm (j + 1) (fun w => if h w = some m then (1 : Int) else 0) = sm j (fun w => if h w = some m then 1 else 0) + (if h j = some m then 1 else 0) := rfl
      rw [es] at hx
      have ho := onM (m := m) hK hh hO hA (by omega : j < kW K) (by omega)
      rw [lp_succ, fX6_many_4, hR.2.1, if_neg (fun q => by have := (J_le (by omega) (by omega) (by omega) (by omega)).mp q; omega)]
      simp (disch := omega) only [ck_J, J_nn]
      by_cases c : h j = some m
      · rw [if_pos (ho.1 c).1, if_pos (ho.1 c).2, fX6_many_37, J1, J_add, J_add]
        rw [if_pos c] at hx
        exact hx
      · rw [if_neg c, Int.add_zero] at hx
        have e46 : fX6_many_36 N (lp (fX6_many_4 N) (fun _ _ _ _ => none) n) (J m) (J j) (J (sm j (fun w => if h w = some m then 1 else 0))) τ = some (J (sm (kW K) (fun w => if h w = some m then 1 else 0)), τ) := by
          rw [fX6_many_36, fX6_many_37, J0, J1, J_add, J_add, Int.add_zero]
          exact hx
        rcases ho.2 c with z | z
        · rw [if_neg z]; exact e46
        · by_cases z0 : τ 8 j = 0
          · rw [if_pos z0, if_neg z]; exact e46
          · rw [if_neg z0]; exact e46
  have h1 := key (kW K) 0 N (by omega) (by omega)
  have e : cn h m = sm (kW K) (fun w => if h w = some m then 1 else 0) := sm_ext (by omega) (fun i h1 h2 => by
    cases q : h i with
    | none => simp
    | some x => have := (hh i x q).1; omega)
  rw [fX6_many, e]
  exact h1
def Same (N : Nat) (x : Option (Int32 × SS)) (y : Option (Int32 × SS)) (σ τ : SS) : Prop := ∃ v, x = some (v, σ) ∧ y = some (v, τ)
section READ
variable {k : Nat} {σ τ : SS} {K : Kt} {h : Ro} {t : Int} {pl : Bool} {π : Ro} {N : Nat}
def freeV (K : Kt) (h : Ro) (x y : Int) : Int32 := if (decide (0 ≤ x) && decide (x ≤ (kM K : Int) - 1)) = true then (if y = 0 then J (kRA K x.toNat - uA K h x.toNat) else if y = 1 then J (kRB K x.toNat - uB K h x.toNat) else if y = 2 then J (cn h x.toNat) else -2) else -2
theorem free5 (q : RelX k σ τ K h t pl π) {x y : Int} (hx : -2147483648 ≤ x ∧ x < 2147483648) (hy : -2147483648 ≤ y ∧ y < 2147483648) : fX5_free N (J x) (J y) σ = some (freeV K h x y, σ) := by
  obtain ⟨q1, q2, q3, q4, q5, q6, q7, -⟩ := q
  have hM := q1.1
  unfold freeV
  rw [fX5_free, hasMachine_spec N q1 q3 hx, cali_s]
  rcases bz_split (lo := 0) (x := x) (hi := (kM K : Int) - 1) with e | ⟨e, e1, e2⟩
  · rw [e, if_pos bz_f, if_neg (by decide)]
  · rw [e, if_neg (by decide), if_pos rfl]
    obtain ⟨m, rfl⟩ : ∃ m : Nat, x = (m : Int) := ⟨x.toNat, by omega⟩
    have hmM : m < kM K := by omega
    have y0 : J y = (0 : Int32) ↔ y = 0 := J_eq (a := y) (b := 0) hy.1 hy.2 (by omega) (by omega)
    have y1 : J y = (1 : Int32) ↔ y = 1 := J_eq (a := y) (b := 1) hy.1 hy.2 (by omega) (by omega)
    have y2 : J y = (2 : Int32) ↔ y = 2 := J_eq (a := y) (b := 2) hy.1 hy.2 (by omega) (by omega)
    rw [show ((m : Nat) : Int).toNat = m from by omega]
    by_cases c0 : y = 0
    · rw [if_pos c0, if_pos (y0.mpr c0), freeA_spec N q1 q3 q4 hmM, cali_s]
    · rw [if_neg c0, if_neg (fun z => c0 (y0.mp z))]
      by_cases c1 : y = 1
      · rw [if_pos c1, if_pos (y1.mpr c1), freeB_spec N q1 q3 q4 hmM, cali_s]
      · rw [if_neg c1, if_neg (fun z => c1 (y1.mp z))]
        by_cases c2 : y = 2
        · rw [if_pos c2, if_pos (y2.mpr c2), ck_J (by omega) (by omega) (by omega), J_nn (by omega), (q4.2.1 m (by omega)).2.2.1]
        · rw [if_neg c2, if_neg (fun z => c2 (y2.mp z))]
theorem free6 (hN : 10 ≤ N) (q : RelX k σ τ K h t pl π) {x y : Int} (hx : -2147483648 ≤ x ∧ x < 2147483648) (hy : -2147483648 ≤ y ∧ y < 2147483648) : fX6_free N (J x) (J y) τ = some (freeV K h x y, τ) := by
  obtain ⟨q1, q2, q3, q4, q5, q6, q7, -⟩ := q
  have hM := q1.1
  unfold freeV
  rw [fX6_free, isMachine_spec N q1 q5 hx, cali_s, fX6_free_17, show (2 : Int32) = J 2 from rfl, show (0 : Int32) = J 0 from rfl, in_spec N hy (by omega) (by omega), cali_s]
  rcases bz_split (lo := 0) (x := x) (hi := (kM K : Int) - 1) with e | ⟨e, e1, e2⟩
  · rw [e, if_pos (by rfl), if_neg (by decide)]
  · rw [e, if_neg (by decide), if_pos rfl]
    obtain ⟨m, rfl⟩ : ∃ m : Nat, x = (m : Int) := ⟨x.toNat, by omega⟩
    have hmM : m < kM K := by omega
    have y0 := J_eq (a := y) (b := 0) hy.1 hy.2 (by omega) (by omega)
    have y1 : J y = (1 : Int32) ↔ y = 1 := J_eq (a := y) (b := 1) hy.1 hy.2 (by omega) (by omega)
    rw [show ((m : Nat) : Int).toNat = m from by omega]
    rcases bz_split (lo := 0) (x := y) (hi := 2) with f | ⟨f, f1, f2⟩
    · have hn : ¬ (0 ≤ y ∧ y ≤ 2) := by
        intro z
        rw [decide_eq_true z.1, decide_eq_true z.2] at f
        cases f
      rw [f, if_pos (by rfl), if_neg (fun z => hn (by omega)), if_neg (fun z => hn (by omega)), if_neg (fun z => hn (by omega))]
      rfl
    · rw [f, if_neg (by decide)]
      by_cases c0 : y = 0
      · rw [if_pos c0, if_pos (y0.mpr c0), mfreeA_spec hN q1 q2.1 q5 q6 q7 hmM, cali_s, fX6_free_50]
      · rw [if_neg c0, if_neg (fun z => c0 (y0.mp z))]
        by_cases c1 : y = 1
        · rw [if_pos c1, if_pos (y1.mpr c1), mfreeB_spec hN q1 q2.1 q5 q6 q7 hmM, cali_s, fX6_free_50]
        · rw [if_neg c1, if_neg (fun z => c1 (y1.mp z)), if_pos (by omega), many_spec hN q1 q2.1 q5 q6 q7 (by omega), cali_s, fX6_free_50]
theorem free_eq (hN : 10 ≤ N) (q : RelX k σ τ K h t pl π) (a b : Int32) : Same N (fX5_free N a b σ) (fX6_free N a b τ) σ τ := by
  obtain ⟨x, rfl, hx⟩ := J_ex a
  obtain ⟨y, rfl, hy⟩ := J_ex b
  exact ⟨_, free5 q hx hy, free6 hN q hx hy⟩
def planV (K : Kt) (pl : Bool) (π : Ro) (x : Int) : Int32 := if (decide (0 ≤ x) && decide (x ≤ (kW K : Int) - 1)) = true then (if pl then rv (π x.toNat) else -3) else -2
theorem planAt_eq (q : RelX k σ τ K h t pl π) (a : Int32) : Same N (fX5_planAt N a σ) (fX6_planAt N a τ) σ τ := by
  obtain ⟨q1, q2, q3, q4, q5, q6, q7, -, ⟨-, -, -, p4, p5⟩, q10⟩ := q
  have hW := q1.2.1
  obtain ⟨x, rfl, hx⟩ := J_ex a
  refine ⟨planV K pl π x, ?_, ?_⟩
  · unfold planV
    rw [fX5_planAt, hasWork_spec N q1 q3 hx, cali_s, p4, fX5_planAt_32, fX5_planAt_32]
    rcases bz_split (lo := 0) (x := x) (hi := (kW K : Int) - 1) with e | ⟨e, e1, e2⟩
    · rw [e, if_pos (by rfl), if_neg (by decide)]
    · rw [e, if_neg (by decide), if_pos rfl]
      obtain ⟨w, rfl⟩ : ∃ w : Nat, x = (w : Int) := ⟨x.toNat, by omega⟩
      rw [show ((w : Nat) : Int).toNat = w from by omega]
      cases pl with
      | false => rfl
      | true =>
        obtain ⟨z1, z2, z3⟩ := q10 rfl
        rw [if_neg (by decide), ck_J (by omega) (by omega) (by omega), J_nn (by omega), z2 w (by omega), if_pos rfl]
  · unfold planV
    rw [fX6_planAt, q5.2.1, J1, J_sub, show fX6_in N (J x) 0 (J ((kW K : Int) - 1)) τ = fX6_in N (J x) (J 0) (J ((kW K : Int) - 1)) τ from rfl, in_spec N hx (by omega) (by omega), cali_s, p5, fX6_planAt_35, fX6_planAt_35]
    rcases bz_split (lo := 0) (x := x) (hi := (kW K : Int) - 1) with e | ⟨e, e1, e2⟩
    · rw [e, if_pos (by rfl), if_neg (by decide)]
    · rw [e, if_neg (by decide), if_pos rfl]
      obtain ⟨w, rfl⟩ : ∃ w : Nat, x = (w : Int) := ⟨x.toNat, by omega⟩
      rw [show ((w : Nat) : Int).toNat = w from by omega]
      cases pl with
      | false => rfl
      | true =>
        obtain ⟨z1, z2, z3⟩ := q10 rfl
        rw [if_neg (by decide), ck_J (by omega) (by omega) (by omega), J_nn (by omega), z3 w (by omega), if_pos rfl]
def aboutV (K : Kt) (h : Ro) (x y : Int) : Int32 := if (decide (0 ≤ x) && decide (x ≤ (kW K : Int) - 1)) = true then (if y = 0 then rv (h x.toNat) else if y = 1 then J (kA K x.toNat) else if y = 2 then J (kB K x.toNat) else if y = 3 then J (kd K x.toNat : Int) else if y = 4 then (if h x.toNat = none then -1 else J (blk K x.toNat : Int)) else if y = 5 then (if h x.toNat = none then 1 else 0) else -2) else -2
theorem about5 (q : RelX k σ τ K h t pl π) {x y : Int} (hx : -2147483648 ≤ x ∧ x < 2147483648) (hy : -2147483648 ≤ y ∧ y < 2147483648) : fX5_about N (J x) (J y) σ = some (aboutV K h x y, σ) := by
  obtain ⟨q1, q2, q3, q4, q5, q6, q7, -⟩ := q
  have hW := q1.2.1
  have hM := q1.1
  unfold aboutV
  rw [fX5_about, hasWork_spec N q1 q3 hx, cali_s]
  rcases bz_split (lo := 0) (x := x) (hi := (kW K : Int) - 1) with e | ⟨e, e1, e2⟩
  · rw [e, if_pos (by rfl), if_neg (by decide)]
  · rw [e, if_neg (by decide), if_pos rfl]
    obtain ⟨w, rfl⟩ : ∃ w : Nat, x = (w : Int) := ⟨x.toNat, by omega⟩
    have hw : w < kW K := by omega
    obtain ⟨s4, s5, s6, -, -, -, -, s10, -⟩ := q3.2.2.2.1 w hw
    have hb : ∀ m, h w = some m → m < 2147483647 := fun m z => by have := (q2.1 w m z).2; omega
    have yc0 : J y = (0 : Int32) ↔ y = 0 := J_eq (a := y) (b := 0) hy.1 hy.2 (by omega) (by omega)
    have yc1 : J y = (1 : Int32) ↔ y = 1 := J_eq (a := y) (b := 1) hy.1 hy.2 (by omega) (by omega)
    have yc2 : J y = (2 : Int32) ↔ y = 2 := J_eq (a := y) (b := 2) hy.1 hy.2 (by omega) (by omega)
    have yc3 : J y = (3 : Int32) ↔ y = 3 := J_eq (a := y) (b := 3) hy.1 hy.2 (by omega) (by omega)
    have yc4 : J y = (4 : Int32) ↔ y = 4 := J_eq (a := y) (b := 4) hy.1 hy.2 (by omega) (by omega)
    have yc5 : J y = (5 : Int32) ↔ y = 5 := J_eq (a := y) (b := 5) hy.1 hy.2 (by omega) (by omega)
    rw [show ((w : Nat) : Int).toNat = w from by omega, ck_J (by omega) (by omega) (by omega), J_nn (by omega), q4.1 w (by omega), Jm1]
    have h32 : ∀ t0, fX5_about_32 N (J w) (J y) t0 σ = if y = 0 then some (rv (h w), σ) else if y = 1 then some (J (kA K w), σ) else if y = 2 then some (J (kB K w), σ) else if y = 3 then some (J (kd K w : Int), σ) else if y = 4 then (if t0 = 0 then some (J (blk K w : Int), σ) else some (-1, σ)) else if y = 5 then (if t0 = 0 then some (0, σ) else some (1, σ)) else some (-2, σ) := by
      intro t0
      rw [fX5_about_32]
      simp (disch := omega) only [ck_J, J_nn, q4.1 w (by omega), s4, s5, s6, s10, fX5_about_129, fX5_about_139]
      by_cases c0 : y = 0
      · rw [if_pos c0, if_pos (yc0.mpr c0)]
      rw [if_neg c0, if_neg (fun z => c0 (yc0.mp z))]
      by_cases c1 : y = 1
      · rw [if_pos c1, if_pos (yc1.mpr c1)]
      rw [if_neg c1, if_neg (fun z => c1 (yc1.mp z))]
      by_cases c2 : y = 2
      · rw [if_pos c2, if_pos (yc2.mpr c2)]
      rw [if_neg c2, if_neg (fun z => c2 (yc2.mp z))]
      by_cases c3 : y = 3
      · rw [if_pos c3, if_pos (yc3.mpr c3)]
      rw [if_neg c3, if_neg (fun z => c3 (yc3.mp z))]
      by_cases c4 : y = 4
      · rw [if_pos c4, if_pos (yc4.mpr c4)]
      rw [if_neg c4, if_neg (fun z => c4 (yc4.mp z))]
      by_cases c5 : y = 5
      · rw [if_pos c5, if_pos (yc5.mpr c5)]
      rw [if_neg c5, if_neg (fun z => c5 (yc5.mp z))]
    have fin : ∀ t0 : Int32, t0 = (if h w = none then 1 else 0) → fX5_about_32 N (J w) (J y) t0 σ = some (if y = 0 then rv (h w) else if y = 1 then J (kA K w) else if y = 2 then J (kB K w) else if y = 3 then J (kd K w : Int) else if y = 4 then (if h w = none then -1 else J (blk K w : Int)) else if y = 5 then (if h w = none then 1 else 0) else -2, σ) := by
      intro t0 ht0
      rw [h32, ht0]
      by_cases c0 : y = 0
      · simp only [c0, if_true]
      by_cases c1 : y = 1
      · subst c1; rfl
      by_cases c2 : y = 2
      · subst c2; rfl
      by_cases c3 : y = 3
      · subst c3; rfl
      by_cases c4 : y = 4
      · subst c4
        cases z : h w with
        | none => rfl
        | some m => rfl
      by_cases c5 : y = 5
      · subst c5
        cases z : h w with
        | none => rfl
        | some m => rfl
      simp only [c0, c1, c2, c3, c4, c5, if_false]
    cases z : h w with
    | none =>
      rw [if_pos (by rfl)]
      have := fin 1 (by rw [z]; rfl)
      rw [z] at this
      exact this
    | some m =>
      rw [if_neg (fun r => by have := (rv_none (fun m' hm' => hb m' (by rw [z]; exact hm'))).mp r; cases this)]
      have := fin 0 (by rw [z]; rfl)
      rw [z] at this
      exact this
theorem about6 (hN : 10 ≤ N) (q : RelX k σ τ K h t pl π) {x y : Int} (hx : -2147483648 ≤ x ∧ x < 2147483648) (hy : -2147483648 ≤ y ∧ y < 2147483648) : fX6_about N (J x) (J y) τ = some (aboutV K h x y, τ) := by
  obtain ⟨q1, q2, q3, q4, q5, q6, q7, -⟩ := q
  have hW := q1.2.1
  have hM := q1.1
  unfold aboutV
  rw [fX6_about, q5.2.1, show (5 : Int32) = J 5 from rfl, show (0 : Int32) = J 0 from rfl, show ((J (kW K : Int)) - 1 : Int32) = J ((kW K : Int) - 1) from by rw [J1, J_sub], in_spec N hx (by omega) (by omega), cali_s, in_spec N hy (by omega) (by omega), cali_s]
  rcases bz_split (lo := 0) (x := x) (hi := (kW K : Int) - 1) with e | ⟨e, e1, e2⟩
  · rw [e, if_pos (by rfl), if_neg (by decide), fX6_about_23]
  · rw [e, if_neg (by decide), if_pos rfl]
    obtain ⟨w, rfl⟩ : ∃ w : Nat, x = (w : Int) := ⟨x.toNat, by omega⟩
    have hw : w < kW K := by omega
    obtain ⟨m3, m4, m5, m6⟩ := q5.2.2.2 w hw
    have yc := fun c (hc : (0 : Int) ≤ c ∧ c ≤ 5) => J_eq (a := y) (b := c) hy.1 hy.2 (by omega) (by omega)
    have hov := q6 w hw
    unfold ovf at hov
    rw [show ((w : Nat) : Int).toNat = w from by omega]
    rcases bz_split (lo := 0) (x := y) (hi := 5) with f | ⟨f, f1, f2⟩
    · have hn : ¬ (0 ≤ y ∧ y ≤ 5) := by
        intro z
        rw [decide_eq_true z.1, decide_eq_true z.2] at f
        cases f
      rw [f, if_pos (by rfl), fX6_about_23, if_neg (fun z => hn (by omega)), if_neg (fun z => hn (by omega)), if_neg (fun z => hn (by omega)), if_neg (fun z => hn (by omega)), if_neg (fun z => hn (by omega)), if_neg (fun z => hn (by omega))]
    · rw [f, if_neg (by decide)]
      simp (disch := omega) only [ck_J, J_nn, m3, m4, m5, hov, fX6_about_79, fX6_about_134]
      have hc : y = 0 ∨ y = 1 ∨ y = 2 ∨ y = 3 ∨ y = 4 ∨ y = 5 := by omega
      rcases hc with rfl | rfl | rfl | rfl | rfl | rfl
      · cases z : h w with
        | none => rfl
        | some m => rw [q7 w m hw z]; rfl
      · rfl
      · rfl
      · rfl
      · rw [blockOf_spec hN q1 q5 q6 q2.ov hw]
        cases z : h w with
        | none => rfl
        | some m => rfl
      · cases z : h w with
        | none => rfl
        | some m => rfl
theorem about_eq (hN : 10 ≤ N) (q : RelX k σ τ K h t pl π) (a b : Int32) : Same N (fX5_about N a b σ) (fX6_about N a b τ) σ τ := by
  obtain ⟨x, rfl, hx⟩ := J_ex a
  obtain ⟨y, rfl, hy⟩ := J_ex b
  exact ⟨_, about5 q hx hy, about6 hN q hx hy⟩
end READ
