/-! sums -/
def sm : Nat → (Nat → Int) → Int
  | 0, _ => 0
  | n + 1, f => sm n f + f n
theorem sm_congr {n : Nat} {f g : Nat → Int} (h : ∀ i, i < n → f i = g i) : sm n f = sm n g := by
  induction n with
  | zero => rfl
  | succ n ih =>
    show sm n f + f n = sm n g + g n
    rw [ih (fun i hi => h i (by omega)), h n (by omega)]
theorem sm_zero {n : Nat} {f : Nat → Int} (h : ∀ i, i < n → f i = 0) : sm n f = 0 := by
  induction n with
  | zero => rfl
  | succ n ih =>
    show sm n f + f n = 0
    rw [ih (fun i hi => h i (by omega)), h n (by omega)]
    rfl
theorem sm_add {n : Nat} {f g : Nat → Int} : sm n (fun i => f i + g i) = sm n f + sm n g := by
  induction n with
  | zero => rfl
  | succ n ih =>
    show sm n (fun i => f i + g i) + (f n + g n) = (sm n f + f n) + (sm n g + g n)
    rw [ih]
    omega
theorem sm_one {n k : Nat} {c : Int} (h : k < n) : sm n (fun i => if i = k then c else 0) = c := by
  induction n with
  | zero => exact absurd h (by omega)
  | succ n ih =>
    show sm n _ + (if n = k then c else 0) = c
    by_cases e : n = k
    · rw [if_pos e, sm_zero (fun i hi => if_neg (by omega))]
      omega
    · rw [if_neg e, ih (by omega)]
      omega
/-- one place more -/
theorem sm_upd {n k : Nat} {f g : Nat → Int} {c : Int} (hk : k < n) (h1 : g k = f k + c) (h2 : ∀ i, i < n → i ≠ k → g i = f i) : sm n g = sm n f + c := by
  have : sm n g = sm n (fun i => f i + (if i = k then c else 0)) := sm_congr (fun i hi => by
    by_cases e : i = k
    · rw [if_pos e, e, h1]
    · rw [if_neg e, h2 i hi e]; omega)
  rw [this, sm_add, sm_one hk]
theorem sm_mono {n : Nat} {f g : Nat → Int} (h : ∀ i, i < n → f i ≤ g i) : sm n f ≤ sm n g := by
  induction n with
  | zero => exact Int.le_refl _
  | succ n ih =>
    show sm n f + f n ≤ sm n g + g n
    have h1 := ih (fun i hi => h i (by omega))
    have h2 := h n (by omega)
    omega
theorem sm_const {n : Nat} {c : Int} : sm n (fun _ => c) = n * c := by
  induction n with
  | zero => simp [sm]
  | succ n ih =>
    show sm n _ + c = _
    rw [ih, Int.natCast_add, Int.add_mul]
    omega
theorem sm_bd {n : Nat} {f : Nat → Int} {c : Int} (h : ∀ i, i < n → 0 ≤ f i ∧ f i ≤ c) : 0 ≤ sm n f ∧ sm n f ≤ n * c := by
  constructor
  · have h1 := sm_mono (f := fun _ => 0) (g := f) (fun i hi => (h i hi).1)
    rw [sm_const] at h1
    simpa using h1
  · have h1 := sm_mono (f := f) (g := fun _ => c) (fun i hi => (h i hi).2)
    rw [sm_const] at h1
    exact h1
theorem sm_ge {n k : Nat} {f : Nat → Int} (hk : k < n) (h : ∀ i, i < n → 0 ≤ f i) : f k ≤ sm n f := by
  have h1 := sm_mono (n := n) (f := fun i => if i = k then f k else 0) (g := f) (fun i hi => by
    by_cases e : i = k
    · rw [if_pos e, e]; exact Int.le_refl _
    · rw [if_neg e]; exact h i hi)
  rw [sm_one hk] at h1
  exact h1
theorem sm_ext {n m : Nat} {f : Nat → Int} (h : n ≤ m) (hz : ∀ i, n ≤ i → i < m → f i = 0) : sm m f = sm n f := by
  induction m with
  | zero =>
    have : n = 0 := by omega
    rw [this]
  | succ m ih =>
    by_cases e : n = m + 1
    · rw [e]
    · show sm m f + f m = sm n f
      rw [ih (by omega) (fun i h1 h2 => hz i h1 (by omega)), hz m (by omega) (by omega)]
      omega
/-! cells of a state -/
theorem stp_s {σ : SS} {k : Nat} {g : Nat → Int32} : stp σ k g k = g := by simp [stp]
theorem stp_n {σ : SS} {k j : Nat} {g : Nat → Int32} (h : j ≠ k) : stp σ k g j = σ j := by simp [stp, h]
theorem upd_s {f : Nat → Int32} {k : Nat} {x : Int32} : upd f k x k = x := by simp [upd]
theorem upd_n {f : Nat → Int32} {k j : Nat} {x : Int32} (h : j ≠ k) : upd f k x j = f j := by simp [upd, h]
theorem J_nn {w : Nat} (h : w < 2147483648) : (J (w : Int)).toNatClampNeg = w := by
  rw [J_nat (by omega) (by omega)]
  omega
/-! what stands in the stock: machines, works, rooms, needs, kinds, groups (of a brief one: its end) -/
abbrev Kt : Type := Nat × Nat × (Nat → Int) × (Nat → Int) × (Nat → Int) × (Nat → Int) × (Nat → Nat) × (Nat → Int)
def kM (K : Kt) : Nat := K.1
def kW (K : Kt) : Nat := K.2.1
def kRA (K : Kt) : Nat → Int := K.2.2.1
def kRB (K : Kt) : Nat → Int := K.2.2.2.1
def kA (K : Kt) : Nat → Int := K.2.2.2.2.1
def kB (K : Kt) : Nat → Int := K.2.2.2.2.2.1
def kd (K : Kt) : Nat → Nat := K.2.2.2.2.2.2.1
def kg (K : Kt) : Nat → Int := K.2.2.2.2.2.2.2
def KOk (K : Kt) : Prop := kM K ≤ 5 ∧ kW K ≤ 8 ∧ (∀ m, m < kM K → 0 ≤ kRA K m ∧ kRA K m ≤ 1000 ∧ 0 ≤ kRB K m ∧ kRB K m ≤ 1000) ∧ (∀ w, w < kW K → 0 ≤ kA K w ∧ kA K w ≤ 1000 ∧ 0 ≤ kB K w ∧ kB K w ≤ 1000 ∧ kd K w ≤ 4 ∧ -2147483648 ≤ kg K w ∧ kg K w < 2147483648 ∧ (kd K w = 1 ∨ kd K w = 2 → 0 ≤ kg K w ∧ kg K w < 4))
/-- the first from v on, n at most, of which p holds -/
def lfr (p : Nat → Bool) : Nat → Nat → Nat
  | 0, v => v
  | n + 1, v => if p v then v else lfr p n (v + 1)
def frnd (K : Kt) (w v : Nat) : Bool := kd K w == 2 && kd K v == 2 && kg K w == kg K v
def twin (K : Kt) (w v : Nat) : Bool := kd K w == 1 && kd K v == 1 && kg K w == kg K v
def blk (K : Kt) (w : Nat) : Nat := lfr (fun v => frnd K w v) w 0
def bA (K : Kt) (b : Nat) : Int := sm (kW K) (fun w => if blk K w = b then kA K w else 0)
def bB (K : Kt) (b : Nat) : Int := sm (kW K) (fun w => if blk K w = b then kB K w else 0)
/-! rows -/
abbrev Ro : Type := Nat → Option Nat
def uA (K : Kt) (ρ : Ro) (m : Nat) : Int := sm 8 (fun w => if ρ w = some m then kA K w else 0)
def uB (K : Kt) (ρ : Ro) (m : Nat) : Int := sm 8 (fun w => if ρ w = some m then kB K w else 0)
def cn (ρ : Ro) (m : Nat) : Int := sm 8 (fun w => if ρ w = some m then 1 else 0)
def oc (ρ : Ro) : Int := sm 5 (fun m => if cn ρ m = 0 then 0 else 1)
def ht (K : Kt) (ρ : Ro) (m : Nat) (g : Nat) : Bool := (List.range 8).any (fun w => ρ w == some m && kd K w == 1 && kg K w == (g : Int))
def tw4 (a b c d : Bool) : Int32 := (if a then 1 else 0) ||| (if b then 2 else 0) ||| (if c then 4 else 0) ||| (if d then 8 else 0)
def tw (p : Nat → Bool) : Int32 := tw4 (p 0) (p 1) (p 2) (p 3)
def bitOf (g : Int) : Int32 := if g = 0 then 1 else if g = 1 then 2 else if g = 2 then 4 else if g = 3 then 8 else 0
def rv (o : Option Nat) : Int32 := match o with
  | none => J (-1)
  | some m => J (m : Int)
def StRep (σ : SS) (K : Kt) : Prop := σ 1 0 = J (kM K) ∧ σ 1 1 = J (kW K) ∧ (∀ m, m < kM K → σ 2 m = J (kRA K m) ∧ σ 3 m = J (kRB K m)) ∧ (∀ w, w < kW K → σ 4 w = J (kA K w) ∧ σ 5 w = J (kB K w) ∧ σ 6 w = J (kd K w) ∧ (kd K w = 2 → σ 7 w = J (kg K w)) ∧ (kd K w ≠ 2 → σ 7 w = J (-1)) ∧ σ 8 w = (if kd K w = 1 then bitOf (kg K w) else 0) ∧ (kd K w = 4 → σ 9 w = J (kg K w)) ∧ σ 10 w = J (blk K w) ∧ σ 11 w = J (bA K w) ∧ σ 12 w = J (bB K w)) ∧ (∀ w, kW K ≤ w → w < 9 → σ 11 w = J 0 ∧ σ 12 w = J 0)
def RowRep (σ : SS) (r : Nat) (K : Kt) (ρ : Ro) : Prop := (∀ w, (w < kW K ∨ (r = 21 ∧ w < 8)) → σ (r + 1) w = rv (ρ w)) ∧ (∀ m, m < 5 → σ (r + 2) m = J (uA K ρ m) ∧ σ (r + 3) m = J (uB K ρ m) ∧ σ (r + 4) m = J (cn ρ m) ∧ σ (r + 5) m = tw (fun g => ht K ρ m g)) ∧ σ r 6 = J (oc ρ)
/-- places of a row: works that there are, machines that there are -/
def RoOk (K : Kt) (ρ : Ro) : Prop := ∀ w m, ρ w = some m → w < kW K ∧ m < kM K
def TwApart (K : Kt) (ρ : Ro) : Prop := ∀ v w m, v ≠ w → twin K v w = true → ρ v = some m → ρ w ≠ some m
def rset (ρ : Ro) (w : Nat) (o : Option Nat) : Ro := fun v => if v = w then o else ρ v
/-- nothing but cells lo .. hi has changed -/
def Keep (lo hi : Nat) (σ σ1 : SS) : Prop := ∀ k, (k < lo ∨ hi < k) → σ1 k = σ k
theorem Keep.rfl {lo hi : Nat} {σ : SS} : Keep lo hi σ σ := fun _ _ => Eq.refl _
theorem Keep.trans {lo hi : Nat} {σ σ1 σ2 : SS} (h : Keep lo hi σ σ1) (h1 : Keep lo hi σ1 σ2) : Keep lo hi σ σ2 := fun k hk => (h1 k hk).trans (h k hk)
theorem Keep.mono {lo hi lo' hi' : Nat} {σ σ1 : SS} (h : Keep lo hi σ σ1) (h1 : lo' ≤ lo) (h2 : hi ≤ hi') : Keep lo' hi' σ σ1 := fun k hk => h k (by omega)
theorem StRep.keep {σ σ1 : SS} {K : Kt} (h : StRep σ K) (hk : ∀ k, 1 ≤ k → k ≤ 12 → σ1 k = σ k) : StRep σ1 K := by
  unfold StRep at h ⊢
  rw [hk 1 (by omega) (by omega), hk 2 (by omega) (by omega), hk 3 (by omega) (by omega), hk 4 (by omega) (by omega), hk 5 (by omega) (by omega), hk 6 (by omega) (by omega), hk 7 (by omega) (by omega), hk 8 (by omega) (by omega), hk 9 (by omega) (by omega), hk 10 (by omega) (by omega), hk 11 (by omega) (by omega), hk 12 (by omega) (by omega)]
  exact h
theorem RowRep.keep {σ σ1 : SS} {r : Nat} {K : Kt} {ρ : Ro} (h : RowRep σ r K ρ) (hk : ∀ k, r ≤ k → k ≤ r + 5 → σ1 k = σ k) : RowRep σ1 r K ρ := by
  unfold RowRep at h ⊢
  rw [hk r (by omega) (by omega), hk (r + 1) (by omega) (by omega), hk (r + 2) (by omega) (by omega), hk (r + 3) (by omega) (by omega), hk (r + 4) (by omega) (by omega), hk (r + 5) (by omega) (by omega)]
  exact h
theorem kA_bd {K : Kt} (hK : KOk K) {ρ : Ro} (hρ : RoOk K ρ) (m w : Nat) : 0 ≤ (if ρ w = some m then kA K w else 0) ∧ (if ρ w = some m then kA K w else 0) ≤ 1000 := by
  by_cases e : ρ w = some m
  · rw [if_pos e]
    have := hK.2.2.2 w (hρ w m e).1
    omega
  · rw [if_neg e]; omega
theorem kB_bd {K : Kt} (hK : KOk K) {ρ : Ro} (hρ : RoOk K ρ) (m w : Nat) : 0 ≤ (if ρ w = some m then kB K w else 0) ∧ (if ρ w = some m then kB K w else 0) ≤ 1000 := by
  by_cases e : ρ w = some m
  · rw [if_pos e]
    have := hK.2.2.2 w (hρ w m e).1
    omega
  · rw [if_neg e]; omega
theorem uA_bd {K : Kt} (hK : KOk K) {ρ : Ro} (hρ : RoOk K ρ) (m : Nat) : 0 ≤ uA K ρ m ∧ uA K ρ m ≤ 8000 := by
  have := sm_bd (n := 8) (c := 1000) (fun w _ => kA_bd hK hρ m w)
  exact this
theorem uB_bd {K : Kt} (hK : KOk K) {ρ : Ro} (hρ : RoOk K ρ) (m : Nat) : 0 ≤ uB K ρ m ∧ uB K ρ m ≤ 8000 := by
  have := sm_bd (n := 8) (c := 1000) (fun w _ => kB_bd hK hρ m w)
  exact this
theorem cn_bd (ρ : Ro) (m : Nat) : 0 ≤ cn ρ m ∧ cn ρ m ≤ 8 := by
  have := sm_bd (n := 8) (f := fun w => if ρ w = some m then 1 else 0) (c := 1) (fun w _ => by by_cases e : ρ w = some m <;> simp [e])
  exact this
theorem oc_bd (ρ : Ro) : 0 ≤ oc ρ ∧ oc ρ ≤ 5 := by
  have := sm_bd (n := 5) (f := fun m => if cn ρ m = 0 then 0 else 1) (c := 1) (fun w _ => by by_cases e : cn ρ w = 0 <;> simp [e])
  exact this
theorem uA_set {K : Kt} {ρ : Ro} {w m : Nat} (hw : w < 8) (hn : ρ w = none) (m' : Nat) : uA K (rset ρ w (some m)) m' = uA K ρ m' + (if m' = m then kA K w else 0) := by
  refine sm_upd hw ?_ (fun i _ hi => by simp [rset, hi])
  simp only [rset, if_true, hn]
  by_cases e : m' = m
  · subst e; simp
  · have : ¬ m = m' := fun q => e q.symm
    simp [e, this]
theorem uB_set {K : Kt} {ρ : Ro} {w m : Nat} (hw : w < 8) (hn : ρ w = none) (m' : Nat) : uB K (rset ρ w (some m)) m' = uB K ρ m' + (if m' = m then kB K w else 0) := by
  refine sm_upd hw ?_ (fun i _ hi => by simp [rset, hi])
  simp only [rset, if_true, hn]
  by_cases e : m' = m
  · subst e; simp
  · have : ¬ m = m' := fun q => e q.symm
    simp [e, this]
theorem cn_set {ρ : Ro} {w m : Nat} (hw : w < 8) (hn : ρ w = none) (m' : Nat) : cn (rset ρ w (some m)) m' = cn ρ m' + (if m' = m then 1 else 0) := by
  refine sm_upd hw ?_ (fun i _ hi => by simp [rset, hi])
  simp only [rset, if_true, hn]
  by_cases e : m' = m
  · subst e; simp
  · have : ¬ m = m' := fun q => e q.symm
    simp [e, this]
theorem oc_set {ρ : Ro} {w m : Nat} (hw : w < 8) (hm : m < 5) (hn : ρ w = none) : oc (rset ρ w (some m)) = oc ρ + (if cn ρ m = 0 then 1 else 0) := by
  refine sm_upd hm ?_ (fun i _ hi => ?_)
  · rw [cn_set hw hn, if_pos rfl]
    have := cn_bd ρ m
    rw [if_neg (by omega)]
    by_cases e : cn ρ m = 0 <;> simp [e]
  · rw [cn_set hw hn, if_neg hi]
    simp
theorem ht_set {K : Kt} {ρ : Ro} {w m : Nat} (hw : w < 8) (hn : ρ w = none) (m' g : Nat) : ht K (rset ρ w (some m)) m' g = (ht K ρ m' g || (decide (m' = m) && (kd K w == 1 && kg K w == (g : Int)))) := by
  apply Bool.eq_iff_iff.mpr
  simp only [ht, List.any_eq_true, List.mem_range, Bool.or_eq_true, Bool.and_eq_true, beq_iff_eq, decide_eq_true_eq]
  constructor
  · rintro ⟨v, h1, ⟨h2, h3⟩, h4⟩
    by_cases e : v = w
    · subst e
      right
      simp [rset] at h2
      exact ⟨h2.symm, h3, h4⟩
    · left
      simp only [rset, if_neg e] at h2
      exact ⟨v, h1, ⟨h2, h3⟩, h4⟩
  · rintro (⟨v, h1, ⟨h2, h3⟩, h4⟩ | ⟨h1, h2, h3⟩)
    · by_cases e : v = w
      · subst e; rw [hn] at h2; cases h2
      · exact ⟨v, h1, ⟨by simpa only [rset, if_neg e] using h2, h3⟩, h4⟩
    · exact ⟨w, hw, ⟨by simp [rset, h1], h2⟩, h3⟩
theorem tw_or (p : Nat → Bool) (g : Int) (h0 : 0 ≤ g) (h4 : g < 4) : tw p ||| bitOf g = tw (fun x => p x || (g == (x : Int))) := by
  have : g = 0 ∨ g = 1 ∨ g = 2 ∨ g = 3 := by omega
  unfold tw
  rcases this with rfl | rfl | rfl | rfl
  · show tw4 (p 0) (p 1) (p 2) (p 3) ||| bitOf 0 = tw4 (p 0 || true) (p 1 || false) (p 2 || false) (p 3 || false)
    generalize p 0 = a, p 1 = b, p 2 = c, p 3 = d
    revert a b c d; decide
  · show tw4 (p 0) (p 1) (p 2) (p 3) ||| bitOf 1 = tw4 (p 0 || false) (p 1 || true) (p 2 || false) (p 3 || false)
    generalize p 0 = a, p 1 = b, p 2 = c, p 3 = d
    revert a b c d; decide
  · show tw4 (p 0) (p 1) (p 2) (p 3) ||| bitOf 2 = tw4 (p 0 || false) (p 1 || false) (p 2 || true) (p 3 || false)
    generalize p 0 = a, p 1 = b, p 2 = c, p 3 = d
    revert a b c d; decide
  · show tw4 (p 0) (p 1) (p 2) (p 3) ||| bitOf 3 = tw4 (p 0 || false) (p 1 || false) (p 2 || false) (p 3 || true)
    generalize p 0 = a, p 1 = b, p 2 = c, p 3 = d
    revert a b c d; decide
theorem tw_and (p : Nat → Bool) (g : Int) (h0 : 0 ≤ g) (h4 : g < 4) : (tw p &&& bitOf g = 0) ↔ p g.toNat = false := by
  have : g = 0 ∨ g = 1 ∨ g = 2 ∨ g = 3 := by omega
  unfold tw
  rcases this with rfl | rfl | rfl | rfl
  · show (tw4 (p 0) (p 1) (p 2) (p 3) &&& bitOf 0 = 0) ↔ p 0 = false
    generalize p 0 = a, p 1 = b, p 2 = c, p 3 = d
    revert a b c d; decide
  · show (tw4 (p 0) (p 1) (p 2) (p 3) &&& bitOf 1 = 0) ↔ p 1 = false
    generalize p 0 = a, p 1 = b, p 2 = c, p 3 = d
    revert a b c d; decide
  · show (tw4 (p 0) (p 1) (p 2) (p 3) &&& bitOf 2 = 0) ↔ p 2 = false
    generalize p 0 = a, p 1 = b, p 2 = c, p 3 = d
    revert a b c d; decide
  · show (tw4 (p 0) (p 1) (p 2) (p 3) &&& bitOf 3 = 0) ↔ p 3 = false
    generalize p 0 = a, p 1 = b, p 2 = c, p 3 = d
    revert a b c d; decide
theorem tw_clr (p : Nat → Bool) (g : Int) (h0 : 0 ≤ g) (h4 : g < 4) : tw p &&& (bitOf g ^^^ -1) = tw (fun x => p x && !(g == (x : Int))) := by
  have : g = 0 ∨ g = 1 ∨ g = 2 ∨ g = 3 := by omega
  unfold tw
  rcases this with rfl | rfl | rfl | rfl
  · show tw4 (p 0) (p 1) (p 2) (p 3) &&& (bitOf 0 ^^^ -1) = tw4 (p 0 && false) (p 1 && true) (p 2 && true) (p 3 && true)
    generalize p 0 = a, p 1 = b, p 2 = c, p 3 = d
    revert a b c d; decide
  · show tw4 (p 0) (p 1) (p 2) (p 3) &&& (bitOf 1 ^^^ -1) = tw4 (p 0 && true) (p 1 && false) (p 2 && true) (p 3 && true)
    generalize p 0 = a, p 1 = b, p 2 = c, p 3 = d
    revert a b c d; decide
  · show tw4 (p 0) (p 1) (p 2) (p 3) &&& (bitOf 2 ^^^ -1) = tw4 (p 0 && true) (p 1 && true) (p 2 && false) (p 3 && true)
    generalize p 0 = a, p 1 = b, p 2 = c, p 3 = d
    revert a b c d; decide
  · show tw4 (p 0) (p 1) (p 2) (p 3) &&& (bitOf 3 ^^^ -1) = tw4 (p 0 && true) (p 1 && true) (p 2 && true) (p 3 && false)
    generalize p 0 = a, p 1 = b, p 2 = c, p 3 = d
    revert a b c d; decide
theorem tw_z (p : Nat → Bool) : tw p ||| 0 = tw p ∧ tw p &&& 0 = 0 ∧ tw p &&& (0 ^^^ -1) = tw p := by
  unfold tw
  generalize p 0 = a, p 1 = b, p 2 = c, p 3 = d
  revert a b c d; decide
theorem tw_ext {p q : Nat → Bool} (h : ∀ g, g < 4 → p g = q g) : tw p = tw q := by
  unfold tw
  rw [h 0 (by omega), h 1 (by omega), h 2 (by omega), h 3 (by omega)]
