/-! sets of jobs that are over, as bits -/
theorem bit_get : ∀ o, o < 512 → ∀ k, k < 9 → ((J ((o : Nat) : Int)) >>> ((J ((k : Nat) : Int)) &&& (31 : Int32))) &&& 1 = (if Nat.testBit o k then 1 else 0) := by decide +kernel
theorem bit_set : ∀ o, o < 512 → ∀ k, k < 9 → (J ((o : Nat) : Int)) ||| ((1 : Int32) <<< ((J ((k : Nat) : Int)) &&& (31 : Int32))) = J ((o ||| 2 ^ k : Nat) : Int) := by decide +kernel
theorem bit_req : ∀ o, o < 512 → ∀ k, k < 9 → decide (((1 : Int32) <<< ((J ((k : Nat) : Int)) &&& (31 : Int32))) &&& ((J ((o : Nat) : Int)) ^^^ (-1)) = 0) = Nat.testBit o k := by decide +kernel
theorem bit_one : ∀ k, k < 10 → ((1 : Int32) <<< ((J ((k : Nat) : Int)) &&& (31 : Int32))) = J ((2 ^ k : Nat) : Int) := by decide +kernel
theorem and_zero_l (x : Int32) : (0 : Int32) &&& x = 0 := by
  apply Int32.toBitVec_inj.mp
  simp
def rm : Nat → Nat → Nat
  | 0, _ => 0
  | n + 1, o => rm n o + (if Nat.testBit o n then 0 else 1)
theorem tb_set {o k j : Nat} : Nat.testBit (o ||| 2 ^ k) j = (Nat.testBit o j || decide (k = j)) := by
  rw [Nat.testBit_or, Nat.testBit_two_pow]
theorem rm_congr {n o o1 : Nat} (h : ∀ k, k < n → Nat.testBit o k = Nat.testBit o1 k) : rm n o = rm n o1 := by
  induction n with
  | zero => rfl
  | succ n ih =>
    unfold rm
    rw [ih (fun k hk => h k (by omega)), h n (by omega)]
theorem rm_set : ∀ {n o k : Nat}, k < n → Nat.testBit o k = false → rm n (o ||| 2 ^ k) + 1 = rm n o := by
  intro n
  induction n with
  | zero => intro o k h; omega
  | succ n ih =>
    intro o k hk hb
    unfold rm
    by_cases c : k = n
    · subst c
      rw [hb, tb_set, hb]
      rw [rm_congr (n := k) (o := o ||| 2 ^ k) (o1 := o) (fun j hj => by rw [tb_set, decide_eq_false (by omega), Bool.or_false])]
      simp
    · rw [tb_set, decide_eq_false c, Bool.or_false]
      have := ih (o := o) (k := k) (by omega) hb
      omega
theorem rm_zero : ∀ {n o : Nat}, rm n o = 0 ↔ ∀ k, k < n → Nat.testBit o k = true := by
  intro n
  induction n with
  | zero => intro o; exact ⟨fun _ k h => by omega, fun _ => rfl⟩
  | succ n ih =>
    intro o
    unfold rm
    constructor
    · intro h k hk
      by_cases c : k = n
      · subst c
        cases e : Nat.testBit o k with
        | true => rfl
        | false => rw [e] at h; simp at h
      · exact (ih (o := o)).mp (by omega) k (by omega)
    · intro h
      rw [h n (by omega), (ih (o := o)).mpr (fun k hk => h k (by omega))]
      rfl
theorem rm_start {n : Nat} : rm n 0 = n := by
  induction n with
  | zero => rfl
  | succ n ih =>
    unfold rm
    rw [ih, Nat.zero_testBit]
    rfl
theorem rm_le {n o : Nat} : rm n o ≤ n := by
  induction n with
  | zero => exact Nat.le_refl _
  | succ n ih =>
    unfold rm
    cases Nat.testBit o n <;> simp <;> omega
def anyk : Nat → (Nat → Bool) → Bool
  | 0, _ => false
  | n + 1, p => anyk n p || p n
theorem anyk_true {n : Nat} {p : Nat → Bool} : anyk n p = true ↔ ∃ k, k < n ∧ p k = true := by
  induction n with
  | zero => exact ⟨fun h => (by cases h), fun ⟨k, h, _⟩ => by omega⟩
  | succ n ih =>
    unfold anyk
    rw [Bool.or_eq_true, ih]
    constructor
    · rintro (⟨k, h1, h2⟩ | h)
      · exact ⟨k, by omega, h2⟩
      · exact ⟨n, by omega, h⟩
    · rintro ⟨k, h1, h2⟩
      by_cases c : k = n
      · subst c; exact Or.inr h2
      · exact Or.inl ⟨k, by omega, h2⟩
theorem anyk_false {n : Nat} {p : Nat → Bool} : anyk n p = false ↔ ∀ k, k < n → p k = false := by
  constructor
  · intro h k hk
    cases e : p k with
    | false => rfl
    | true => rw [anyk_true.mpr ⟨k, hk, e⟩] at h; cases h
  · intro h
    cases e : anyk n p with
    | false => rfl
    | true =>
      obtain ⟨k, h1, h2⟩ := anyk_true.mp e
      rw [h k h1] at h2
      cases h2
theorem anyk_congr {n : Nat} {p q : Nat → Bool} (h : ∀ k, k < n → p k = q k) : anyk n p = anyk n q := by
  induction n with
  | zero => rfl
  | succ n ih =>
    unfold anyk
    rw [ih (fun k hk => h k (by omega)), h n (by omega)]
/-- whether all that is left can be done from here -/
def canD (n : Nat) (ok : Nat → Nat → Bool) : Nat → Nat → Bool
  | 0, _ => true
  | d + 1, o => anyk n (fun k => ok o k && canD n ok d (o ||| 2 ^ k))
def canX (n : Nat) (ok : Nat → Nat → Bool) (o : Nat) : Bool := canD n ok (rm n o) o
/-- a job that may be done is not over -/
def OkB (n : Nat) (ok : Nat → Nat → Bool) : Prop := ∀ o k, k < n → ok o k = true → Nat.testBit o k = false
theorem canX_end {n : Nat} {ok : Nat → Nat → Bool} {o : Nat} (h : rm n o = 0) : canX n ok o = true := by
  unfold canX
  rw [h]
  rfl
theorem canX_step {n : Nat} {ok : Nat → Nat → Bool} {o : Nat} (hk : OkB n ok) (h : rm n o ≠ 0) : canX n ok o = anyk n (fun k => ok o k && canX n ok (o ||| 2 ^ k)) := by
  obtain ⟨d, hd⟩ : ∃ d, rm n o = d + 1 := ⟨rm n o - 1, by omega⟩
  unfold canX
  rw [hd]
  refine anyk_congr (fun k h1 => ?_)
  cases e : ok o k with
  | false => rfl
  | true =>
    have := rm_set h1 (hk o k h1 e)
    rw [show rm n (o ||| 2 ^ k) = d by omega]
/-- the first job that leads to the end -/
def fstX (n : Nat) (ok : Nat → Nat → Bool) (o : Nat) : Nat := lfr (fun k => ok o k && canX n ok (o ||| 2 ^ k)) n 0
def stX (n : Nat) (ok : Nat → Nat → Bool) : Nat → Nat → Nat
  | 0, o => o
  | i + 1, o => stX n ok i (o ||| 2 ^ (fstX n ok o))
theorem fstX_ok {n : Nat} {ok : Nat → Nat → Bool} {o : Nat} (hk : OkB n ok) (h : rm n o ≠ 0) (hc : canX n ok o = true) : fstX n ok o < n ∧ ok o (fstX n ok o) = true ∧ canX n ok (o ||| 2 ^ (fstX n ok o)) = true := by
  rw [canX_step hk h] at hc
  obtain ⟨k, h1, h2⟩ := anyk_true.mp hc
  have hle := (lfr_le (fun k => ok o k && canX n ok (o ||| 2 ^ k)) n 0)
  have hlt : fstX n ok o < n := by
    by_cases c : fstX n ok o < n
    · exact c
    · have := lfr_before (fun k => ok o k && canX n ok (o ||| 2 ^ k)) n 0 k (by omega) (by unfold fstX at c; omega)
      rw [h2] at this
      cases this
  have := lfr_hit (fun k => ok o k && canX n ok (o ||| 2 ^ k)) n 0 (by unfold fstX at hlt; omega)
  simp only [Bool.and_eq_true] at this
  exact ⟨hlt, this⟩
theorem fstX_is {n : Nat} {ok : Nat → Nat → Bool} {o j : Nat} (hj : j < n) (hb : ∀ k, k < j → (ok o k && canX n ok (o ||| 2 ^ k)) = false) (ht : (ok o j && canX n ok (o ||| 2 ^ j)) = true) : fstX n ok o = j := by
  by_cases c : j < fstX n ok o
  · have := lfr_before (fun k => ok o k && canX n ok (o ||| 2 ^ k)) n 0 j (by omega) (by unfold fstX at c; exact c)
    rw [ht] at this
    cases this
  · by_cases c2 : fstX n ok o < j
    · have h1 := lfr_hit (fun k => ok o k && canX n ok (o ||| 2 ^ k)) n 0 (by unfold fstX at c2; omega)
      have h2 := hb (fstX n ok o) c2
      unfold fstX at h2
      rw [h2] at h1
      cases h1
    · omega
theorem or_lt {n o k : Nat} (ho : o < 2 ^ n) (hk : k < n) : o ||| 2 ^ k < 2 ^ n := Nat.or_lt_two_pow ho (Nat.pow_lt_pow_right (by omega) hk)
