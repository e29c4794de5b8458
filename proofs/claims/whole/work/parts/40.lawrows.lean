abbrev Lw : Type := Wd × Wd × Nat × Nat × (Nat → Int32)
def FL (X : Cx) (Y : Lw) : Prop := match X, Y with
  | ((p, l, e, R, s, m, args), (below, meth, c, Q), w), (w1, w2, b, L, xs) => p.tables.exec = Jvm.exec ∧ c.code = cL_law ∧ c.maxLocals = 4 ∧ s.vm.findClass RL = some m.cls ∧ (∀ v ∈ wsL_law, v.before args s = true) ∧ va_K w1.2.2.2 vwCl (tys w1) s ∧ inj true w1 ∧ inj false w2 ∧ (∀ i j, i < NP true → j < NP false → w1.1 i ≠ w2.1 j) ∧ (∀ i, i < NP true → s.heap.size ≤ w1.1 i) ∧ (∀ i, i < NP false → s.heap.size ≤ w2.1 i) ∧ w2.2 = w1.2 ∧ va_X b L xs s s.heap ∧ b < s.heap.size ∧ 2048 ≤ R.frames ∧ 84000 ≤ R.locals ∧ 600000 ≤ R.cells ∧ 7302250 ≤ R.slots
def GL (X : Cx) (Y : Lw) (pc : Nat) (lv : List (Nat × Value)) (st : List Value) (σ τ : SS) : Prop := match X, Y with
  | ((p, l, e, R, s, m, args), (below, meth, c, Q), w), (w1, w2, b, L, xs) => ∀ (H : Heap) (locs : List Loc) (ls : Array Slot), va_P w1.2.2.2 vwCl (wl true w1 σ) H → va_P w2.2.2.2 vwCl (wl false w2 τ) H → va_S (fun q => s.heap.size ≤ q) s.heap H locs → lv_has ls 4 lv → W p l e R s m args below meth c H locs 600000 7302250 Q (F0 m pc ls st)
theorem other_kept {t t' : Bool} {w w' : Wd} {σ : SS} {cl : List vw_C} {D : va_G} {H H1 : Heap} (hap : ∀ i j, i < NP t → j < NP t' → w.1 i ≠ w'.1 j) (hP : va_P D cl (wl t' w' σ) H) (hk : ∀ q : Nat, q < H.size → ¬ AA t w H.size q → H1[q]? = H[q]?) : va_P D cl (wl t' w' σ) H1 := by
  refine hP.kept (fun k x hx => hk x.1 ((hP k x hx).lt) (fun h => ?_))
  have hlt := (hP k x hx).lt
  have h2 := wl_lt hx
  rw [wl_get h2] at hx
  cases hx
  rcases h with ⟨i, h3, h4⟩ | h
  · exact hap i k h3 h2 h4.symm
  · exact absurd hlt (Nat.not_lt.mpr h)
theorem lg_cmp_self (v : Int64) : lg_cmp v v = 0 := by unfold lg_cmp; simp
section LAW
variable {X : Cx} {Y : Lw} {pc : Nat} {lv : List (Nat × Value)} {rest : List Value} {σ τ : SS}
theorem l_iconst (F : FL X Y) {n : Int} {v : Int32} (hdg : decode cL_law pc = .ok (.iconst n, 1)) (hv : Int32.ofInt n = v) (g : GL X Y (pc + 1) lv (.int v :: rest) σ τ) : GL X Y pc lv (rest) σ τ := by
  obtain ⟨⟨p, l, e, R, s, m, args⟩, ⟨below, meth, c, Q⟩, w⟩ := X
  obtain ⟨w1, w2, b, L, xs⟩ := Y
  obtain ⟨hx, hb, hml, hown, hts, hK, hi1, hi2, hap, hlo1, hlo2, he, hX, hbl, hfr, hlo, hcl, hsl⟩ := F
  intro H locs ls hP1 hP2 hS hlv
  exact lv_iconst hx hb hdg hv (g H locs ls hP1 hP2 hS hlv)
theorem l_bipush (F : FL X Y) {n : Int} {v : Int32} (hdg : decode cL_law pc = .ok (.bipush n, 2)) (hv : (Int8.ofInt n).toInt32 = v) (g : GL X Y (pc + 2) lv (.int v :: rest) σ τ) : GL X Y pc lv (rest) σ τ := by
  obtain ⟨⟨p, l, e, R, s, m, args⟩, ⟨below, meth, c, Q⟩, w⟩ := X
  obtain ⟨w1, w2, b, L, xs⟩ := Y
  obtain ⟨hx, hb, hml, hown, hts, hK, hi1, hi2, hap, hlo1, hlo2, he, hX, hbl, hfr, hlo, hcl, hsl⟩ := F
  intro H locs ls hP1 hP2 hS hlv
  exact lv_bipush hx hb hdg hv (g H locs ls hP1 hP2 hS hlv)
theorem l_iadd (F : FL X Y) {x y : Int32} (hdg : decode cL_law pc = .ok (.iadd, 1)) (g : GL X Y (pc + 1) lv (.int (x + y) :: rest) σ τ) : GL X Y pc lv (.int y :: .int x :: rest) σ τ := by
  obtain ⟨⟨p, l, e, R, s, m, args⟩, ⟨below, meth, c, Q⟩, w⟩ := X
  obtain ⟨w1, w2, b, L, xs⟩ := Y
  obtain ⟨hx, hb, hml, hown, hts, hK, hi1, hi2, hap, hlo1, hlo2, he, hX, hbl, hfr, hlo, hcl, hsl⟩ := F
  intro H locs ls hP1 hP2 hS hlv
  exact lv_iadd hx hb hdg (g H locs ls hP1 hP2 hS hlv)
theorem l_isub (F : FL X Y) {x y : Int32} (hdg : decode cL_law pc = .ok (.isub, 1)) (g : GL X Y (pc + 1) lv (.int (x - y) :: rest) σ τ) : GL X Y pc lv (.int y :: .int x :: rest) σ τ := by
  obtain ⟨⟨p, l, e, R, s, m, args⟩, ⟨below, meth, c, Q⟩, w⟩ := X
  obtain ⟨w1, w2, b, L, xs⟩ := Y
  obtain ⟨hx, hb, hml, hown, hts, hK, hi1, hi2, hap, hlo1, hlo2, he, hX, hbl, hfr, hlo, hcl, hsl⟩ := F
  intro H locs ls hP1 hP2 hS hlv
  exact lv_isub hx hb hdg (g H locs ls hP1 hP2 hS hlv)
theorem l_iand (F : FL X Y) {x y : Int32} (hdg : decode cL_law pc = .ok (.iand, 1)) (g : GL X Y (pc + 1) lv (.int (x &&& y) :: rest) σ τ) : GL X Y pc lv (.int y :: .int x :: rest) σ τ := by
  obtain ⟨⟨p, l, e, R, s, m, args⟩, ⟨below, meth, c, Q⟩, w⟩ := X
  obtain ⟨w1, w2, b, L, xs⟩ := Y
  obtain ⟨hx, hb, hml, hown, hts, hK, hi1, hi2, hap, hlo1, hlo2, he, hX, hbl, hfr, hlo, hcl, hsl⟩ := F
  intro H locs ls hP1 hP2 hS hlv
  exact lv_iand hx hb hdg (g H locs ls hP1 hP2 hS hlv)
theorem l_lcmp (F : FL X Y) {x y : Int64} (hdg : decode cL_law pc = .ok (.lcmp, 1)) (g : GL X Y (pc + 1) lv (.int (lg_cmp x y) :: rest) σ τ) : GL X Y pc lv (.long y :: .long x :: rest) σ τ := by
  obtain ⟨⟨p, l, e, R, s, m, args⟩, ⟨below, meth, c, Q⟩, w⟩ := X
  obtain ⟨w1, w2, b, L, xs⟩ := Y
  obtain ⟨hx, hb, hml, hown, hts, hK, hi1, hi2, hap, hlo1, hlo2, he, hX, hbl, hfr, hlo, hcl, hsl⟩ := F
  intro H locs ls hP1 hP2 hS hlv
  exact W.lcmp hx hb hdg (g H locs ls hP1 hP2 hS hlv)
theorem l_aload (F : FL X Y) {k : Fin 4} {i j a : Nat} (hdg : decode cL_law pc = .ok (.aload_n k, 1)) (hi : (k : Nat) = i) (hl : lv[j]? = some (i, .ref a)) (g : GL X Y (pc + 1) lv (.ref a :: rest) σ τ) : GL X Y pc lv rest σ τ := by
  obtain ⟨⟨p, l, e, R, s, m, args⟩, ⟨below, meth, c, Q⟩, w⟩ := X
  obtain ⟨w1, w2, b, L, xs⟩ := Y
  obtain ⟨hx, hb, hml, hown, hts, hK, hi1, hi2, hap, hlo1, hlo2, he, hX, hbl, hfr, hlo, hcl, hsl⟩ := F
  intro H locs ls hP1 hP2 hS hlv
  exact lv_aload_n hx hb hdg hi (lv_at hlv j hl) (g H locs ls hP1 hP2 hS hlv)
theorem l_iload (F : FL X Y) {k : Fin 4} {i j : Nat} {x : Int32} (hdg : decode cL_law pc = .ok (.iload_n k, 1)) (hi : (k : Nat) = i) (hl : lv[j]? = some (i, .int x)) (g : GL X Y (pc + 1) lv (.int x :: rest) σ τ) : GL X Y pc lv rest σ τ := by
  obtain ⟨⟨p, l, e, R, s, m, args⟩, ⟨below, meth, c, Q⟩, w⟩ := X
  obtain ⟨w1, w2, b, L, xs⟩ := Y
  obtain ⟨hx, hb, hml, hown, hts, hK, hi1, hi2, hap, hlo1, hlo2, he, hX, hbl, hfr, hlo, hcl, hsl⟩ := F
  intro H locs ls hP1 hP2 hS hlv
  exact lv_iload_n hx hb hdg hi (lv_at hlv j hl) (g H locs ls hP1 hP2 hS hlv)
theorem l_iinc (F : FL X Y) {i j : Nat} {n : Int} {x v : Int32} (hdg : decode cL_law pc = .ok (.iinc i n, 3)) (hk : lv[j]? = some (i, .int x)) (hv : x + Int32.ofInt n = v) (hn : i < 4) {lv' : List (Nat × Value)} (ks : List Nat) (hp : lv_pick ((i, Value.int v) :: lv.filter (fun q => !(q.1 == i) && !(q.1 + 1 == i && q.2.category == 2))) ks = lv') (g : GL X Y (pc + 3) lv' rest σ τ) : GL X Y pc lv rest σ τ := by
  obtain ⟨⟨p, l, e, R, s, m, args⟩, ⟨below, meth, c, Q⟩, w⟩ := X
  obtain ⟨w1, w2, b, L, xs⟩ := Y
  obtain ⟨hx, hb, hml, hown, hts, hK, hi1, hi2, hap, hlo1, hlo2, he, hX, hbl, hfr, hlo, hcl, hsl⟩ := F
  intro H locs ls hP1 hP2 hS hlv
  exact lv_iinc hx hb hdg hlv hk hv hn rfl (fun ls1 hl1 => g H locs ls1 hP1 hP2 hS (lv_sub hl1 ks hp))
theorem l_goto (F : FL X Y) {off : Int} {tgt : Nat} (hdg : decode cL_law pc = .ok (.goto off, 3)) (ht : (pc : Int) + off = (tgt : Int)) (g : GL X Y tgt lv rest σ τ) : GL X Y pc lv rest σ τ := by
  obtain ⟨⟨p, l, e, R, s, m, args⟩, ⟨below, meth, c, Q⟩, w⟩ := X
  obtain ⟨w1, w2, b, L, xs⟩ := Y
  obtain ⟨hx, hb, hml, hown, hts, hK, hi1, hi2, hap, hlo1, hlo2, he, hX, hbl, hfr, hlo, hcl, hsl⟩ := F
  intro H locs ls hP1 hP2 hS hlv
  exact lv_goto hx hb hdg ht (g H locs ls hP1 hP2 hS hlv)
theorem l_len (F : FL X Y) (hdg : decode cL_law pc = .ok (.arraylength, 1)) (g : GL X Y (pc + 1) lv (.int (Int32.ofNat Y.2.2.2.1) :: rest) σ τ) : GL X Y pc lv (.ref Y.2.2.1 :: rest) σ τ := by
  obtain ⟨⟨p, l, e, R, s, m, args⟩, ⟨below, meth, c, Q⟩, w⟩ := X
  obtain ⟨w1, w2, b, L, xs⟩ := Y
  obtain ⟨hx, hb, hml, hown, hts, hK, hi1, hi2, hap, hlo1, hlo2, he, hX, hbl, hfr, hlo, hcl, hsl⟩ := F
  intro H locs ls hP1 hP2 hS hlv
  exact va_slen hx hb hX hbl (Nat.not_le.mpr hbl) hS hdg (g H locs ls hP1 hP2 hS hlv)
theorem l_sld (F : FL X Y) {i : Int32} (hin : vp_in i Y.2.2.2.1) (hdg : decode cL_law pc = .ok (.iaload, 1)) (g : GL X Y (pc + 1) lv (.int (Y.2.2.2.2 i.toNatClampNeg) :: rest) σ τ) : GL X Y pc lv (.int i :: .ref Y.2.2.1 :: rest) σ τ := by
  obtain ⟨⟨p, l, e, R, s, m, args⟩, ⟨below, meth, c, Q⟩, w⟩ := X
  obtain ⟨w1, w2, b, L, xs⟩ := Y
  obtain ⟨hx, hb, hml, hown, hts, hK, hi1, hi2, hap, hlo1, hlo2, he, hX, hbl, hfr, hlo, hcl, hsl⟩ := F
  intro H locs ls hP1 hP2 hS hlv
  exact va_sld hx hb hX hbl (Nat.not_le.mpr hbl) hS hin hdg (g H locs ls hP1 hP2 hS hlv)
theorem l_gt (F : FL X Y) {off : Int} {tgt : Nat} {x y : Int32} (hdg : decode cL_law pc = .ok (.if_icmp .gt off, 3)) (ht : (pc : Int) + off = (tgt : Int)) (ga : y < x → GL X Y tgt lv rest σ τ) (gb : ¬ y < x → GL X Y (pc + 3) lv rest σ τ) : GL X Y pc lv (.int y :: .int x :: rest) σ τ := by
  obtain ⟨⟨p, l, e, R, s, m, args⟩, ⟨below, meth, c, Q⟩, w⟩ := X
  obtain ⟨w1, w2, b, L, xs⟩ := Y
  obtain ⟨hx, hb, hml, hown, hts, hK, hi1, hi2, hap, hlo1, hlo2, he, hX, hbl, hfr, hlo, hcl, hsl⟩ := F
  intro H locs ls hP1 hP2 hS hlv
  exact lv_icmp_gt hx hb hdg ht (fun q => ga q H locs ls hP1 hP2 hS hlv) (fun q => gb q H locs ls hP1 hP2 hS hlv)
theorem l_eq (F : FL X Y) {off : Int} {tgt : Nat} {x : Int32} (hdg : decode cL_law pc = .ok (.if_icmp .eq off, 3)) (ht : (pc : Int) + off = (tgt : Int)) (g : GL X Y tgt lv rest σ τ) : GL X Y pc lv (.int x :: .int x :: rest) σ τ := by
  obtain ⟨⟨p, l, e, R, s, m, args⟩, ⟨below, meth, c, Q⟩, w⟩ := X
  obtain ⟨w1, w2, b, L, xs⟩ := Y
  obtain ⟨hx, hb, hml, hown, hts, hK, hi1, hi2, hap, hlo1, hlo2, he, hX, hbl, hfr, hlo, hcl, hsl⟩ := F
  intro H locs ls hP1 hP2 hS hlv
  exact lv_icmp_eq hx hb hdg ht (fun _ => g H locs ls hP1 hP2 hS hlv) (fun q => absurd rfl q)
theorem l_ifT (F : FL X Y) {off : Int} {tgt : Nat} {x : Int32} (hdg : decode cL_law pc = .ok (.ifCond .eq off, 3)) (ht : (pc : Int) + off = (tgt : Int)) (h : x = 0) (g : GL X Y tgt lv rest σ τ) : GL X Y pc lv (.int x :: rest) σ τ := by
  obtain ⟨⟨p, l, e, R, s, m, args⟩, ⟨below, meth, c, Q⟩, w⟩ := X
  obtain ⟨w1, w2, b, L, xs⟩ := Y
  obtain ⟨hx, hb, hml, hown, hts, hK, hi1, hi2, hap, hlo1, hlo2, he, hX, hbl, hfr, hlo, hcl, hsl⟩ := F
  intro H locs ls hP1 hP2 hS hlv
  exact lv_if_eq hx hb hdg ht (fun _ => g H locs ls hP1 hP2 hS hlv) (fun q => absurd h q)
theorem l_ifF (F : FL X Y) {off : Int} {tgt : Nat} {x : Int32} (hdg : decode cL_law pc = .ok (.ifCond .eq off, 3)) (ht : (pc : Int) + off = (tgt : Int)) (h : ¬ x = 0) (g : GL X Y (pc + 3) lv rest σ τ) : GL X Y pc lv (.int x :: rest) σ τ := by
  obtain ⟨⟨p, l, e, R, s, m, args⟩, ⟨below, meth, c, Q⟩, w⟩ := X
  obtain ⟨w1, w2, b, L, xs⟩ := Y
  obtain ⟨hx, hb, hml, hown, hts, hK, hi1, hi2, hap, hlo1, hlo2, he, hX, hbl, hfr, hlo, hcl, hsl⟩ := F
  intro H locs ls hP1 hP2 hS hlv
  exact lv_if_eq hx hb hdg ht (fun q => absurd q h) (fun _ => g H locs ls hP1 hP2 hS hlv)
theorem l_tabIn (F : FL X Y) {dflt lo1 hi1 : Int} {offs : Array Int} {len : Nat} {x : Int32} {off : Int} {tgt : Nat} (hdg : decode cL_law pc = .ok (.tableswitch dflt lo1 hi1 offs, len)) (h1 : ¬ x.toInt < lo1) (h2 : ¬ hi1 < x.toInt) (ho : offs[(x.toInt - lo1).toNat]? = some off) (ht : (pc : Int) + off = (tgt : Int)) (g : GL X Y tgt lv rest σ τ) : GL X Y pc lv (.int x :: rest) σ τ := by
  obtain ⟨⟨p, l, e, R, s, m, args⟩, ⟨below, meth, c, Q⟩, w⟩ := X
  obtain ⟨w1, w2, b, L, xs⟩ := Y
  obtain ⟨hx, hb, hml, hown, hts, hK, hi1, hi2, hap, hlo1, hlo2, he, hX, hbl, hfr, hlo, hcl, hsl⟩ := F
  intro H locs ls hP1 hP2 hS hlv
  exact lv_tableIn hx hb hdg h1 h2 ho ht (g H locs ls hP1 hP2 hS hlv)
theorem l_tabOut (F : FL X Y) {dflt lo1 hi1 : Int} {offs : Array Int} {len : Nat} {x : Int32} {tgt : Nat} (hdg : decode cL_law pc = .ok (.tableswitch dflt lo1 hi1 offs, len)) (h1 : x.toInt < lo1 ∨ hi1 < x.toInt) (ht : (pc : Int) + dflt = (tgt : Int)) (g : GL X Y tgt lv rest σ τ) : GL X Y pc lv (.int x :: rest) σ τ := by
  obtain ⟨⟨p, l, e, R, s, m, args⟩, ⟨below, meth, c, Q⟩, w⟩ := X
  obtain ⟨w1, w2, b, L, xs⟩ := Y
  obtain ⟨hx, hb, hml, hown, hts, hK, hi1, hi2, hap, hlo1, hlo2, he, hX, hbl, hfr, hlo, hcl, hsl⟩ := F
  intro H locs ls hP1 hP2 hS hlv
  exact lv_tableOut hx hb hdg h1 ht (g H locs ls hP1 hP2 hS hlv)
theorem l_vi1 (F : FL X Y) {s1 : SS} {v : Int32} {y : MethodName} {b1 : ByteArray} {maxL n idx a1 a2 N ci : Nat} {ret : Option FieldType} {As st : List Value} {C : String} {T : u_T} {fs : (Nat → Int32) → List Value} (hM : MI true X.1.2.1 y b1 maxL ret { frames := a1, cells := 0, slots := 0, locals := a2 } Y.1 (rf Y.1 0 :: As) σ (v, s1)) (hw : MwV C y b1 maxL ret n) (hk : Cond.methodLink RL idx y ∈ wsL_law) (hn : As.length = n) (hrm : a1 + 1 ≤ 2048 ∧ 8 + (maxL + 11) + a2 ≤ 84000) (ho : IsO true Y.1 0 ci fs) (hc : Cl ci C T N) (hst : st = As.reverse ++ rf Y.1 0 :: rest) (hcat : (rest.map fun v => v.category).sum ≤ 8) (hdg : decode cL_law pc = .ok (.invokevirtual idx, 3)) (g : GL X Y (pc + 3) lv (.int v :: rest) s1 τ) : GL X Y pc lv st σ τ := by
  subst hst
  obtain ⟨⟨p, l, e, R, s, m, args⟩, ⟨below, meth, c, Q⟩, w⟩ := X
  obtain ⟨w1, w2, b, L, xs⟩ := Y
  obtain ⟨hx, hb, hml, hown, hts, hK, hi1, hi2, hap, hlo1, hlo2, he, hX, hbl, hfr, hlo, hcl, hsl⟩ := F
  have hK0 : va_K w1.2.2.2 vwCl (tys w1) s := hK
  intro H locs ls hP1 hP2 hS hlv
  have hM2 := hM H.size
  have hA : ∀ q, AA true w1 H.size q → s.heap.size ≤ q := fun q h => by
    rcases h with ⟨k, h1, h2⟩ | h
    · rw [h2]; exact hlo1 k h1
    · exact Nat.le_trans hS.1 h
  refine va_calli (va_runV (As := As) (rest := rest) ⟨hx, hb, hml, hown, hts⟩ hM2 (cwV n hts (gdV hw hk) rfl rfl rfl hw.2.2.2.2 ⟨Nat.le_trans hrm.1 hfr, Nat.le_trans hrm.2 hlo⟩) ⟨pre_blind, va_recv hK0 hP1 (q0 := 0) hc.1 ((wl_get ho.1).trans (by rw [ho.2])), fun U hU hW => ⟨rfl, by rw [hU], by rw [hU]; exact hP1, va_K.moved hW.alike hK0⟩⟩ rfl hn hlv.1 rfl (lv_room hcat) hdg ⟨hcl, hsl⟩) hS (fun q _ h => hA q h) hA (fun v0 u t1 H1 locs1 ht hvm hw1 hB hz1 hk1 hS1 => ?_)
  cases hw1
  rw [ht] at hB
  exact g H1 locs1 ls hB (other_kept hap hP2 hk1) hS1 hlv
theorem l_vl1 (F : FL X Y) {s1 : SS} {v : Int64} {y : MethodName} {b1 : ByteArray} {maxL n idx a1 a2 N ci : Nat} {ret : Option FieldType} {As st : List Value} {C : String} {T : u_T} {fs : (Nat → Int32) → List Value} (hM : ML true X.1.2.1 y b1 maxL ret { frames := a1, cells := 0, slots := 0, locals := a2 } Y.1 (rf Y.1 0 :: As) σ (v, s1)) (hw : MwV C y b1 maxL ret n) (hk : Cond.methodLink RL idx y ∈ wsL_law) (hn : As.length = n) (hrm : a1 + 1 ≤ 2048 ∧ 8 + (maxL + 11) + a2 ≤ 84000) (ho : IsO true Y.1 0 ci fs) (hc : Cl ci C T N) (hst : st = As.reverse ++ rf Y.1 0 :: rest) (hcat : (rest.map fun v => v.category).sum ≤ 8) (hdg : decode cL_law pc = .ok (.invokevirtual idx, 3)) (g : GL X Y (pc + 3) lv (.long v :: rest) s1 τ) : GL X Y pc lv st σ τ := by
  subst hst
  obtain ⟨⟨p, l, e, R, s, m, args⟩, ⟨below, meth, c, Q⟩, w⟩ := X
  obtain ⟨w1, w2, b, L, xs⟩ := Y
  obtain ⟨hx, hb, hml, hown, hts, hK, hi1, hi2, hap, hlo1, hlo2, he, hX, hbl, hfr, hlo, hcl, hsl⟩ := F
  have hK0 : va_K w1.2.2.2 vwCl (tys w1) s := hK
  intro H locs ls hP1 hP2 hS hlv
  have hM2 := hM H.size
  have hA : ∀ q, AA true w1 H.size q → s.heap.size ≤ q := fun q h => by
    rcases h with ⟨k, h1, h2⟩ | h
    · rw [h2]; exact hlo1 k h1
    · exact Nat.le_trans hS.1 h
  refine va_calll (va_runV (As := As) (rest := rest) ⟨hx, hb, hml, hown, hts⟩ hM2 (cwV n hts (gdV hw hk) rfl rfl rfl hw.2.2.2.2 ⟨Nat.le_trans hrm.1 hfr, Nat.le_trans hrm.2 hlo⟩) ⟨pre_blind, va_recv hK0 hP1 (q0 := 0) hc.1 ((wl_get ho.1).trans (by rw [ho.2])), fun U hU hW => ⟨rfl, by rw [hU], by rw [hU]; exact hP1, va_K.moved hW.alike hK0⟩⟩ rfl hn hlv.1 rfl (lv_room hcat) hdg ⟨hcl, hsl⟩) hS (fun q _ h => hA q h) hA (fun v0 u t1 H1 locs1 ht hvm hw1 hB hz1 hk1 hS1 => ?_)
  cases hw1
  rw [ht] at hB
  exact g H1 locs1 ls hB (other_kept hap hP2 hk1) hS1 hlv
theorem l_vi2 (F : FL X Y) {s1 : SS} {v : Int32} {y : MethodName} {b1 : ByteArray} {maxL n idx a1 a2 N ci : Nat} {ret : Option FieldType} {As st : List Value} {C : String} {T : u_T} {fs : (Nat → Int32) → List Value} (hM : MI false X.1.2.1 y b1 maxL ret { frames := a1, cells := 0, slots := 0, locals := a2 } Y.2.1 (rf Y.2.1 0 :: As) τ (v, s1)) (hw : MwV C y b1 maxL ret n) (hk : Cond.methodLink RL idx y ∈ wsL_law) (hn : As.length = n) (hrm : a1 + 1 ≤ 2048 ∧ 8 + (maxL + 11) + a2 ≤ 84000) (ho : IsO false Y.2.1 0 ci fs) (hc : Cl ci C T N) (hst : st = As.reverse ++ rf Y.2.1 0 :: rest) (hcat : (rest.map fun v => v.category).sum ≤ 8) (hdg : decode cL_law pc = .ok (.invokevirtual idx, 3)) (g : GL X Y (pc + 3) lv (.int v :: rest) σ s1) : GL X Y pc lv st σ τ := by
  subst hst
  obtain ⟨⟨p, l, e, R, s, m, args⟩, ⟨below, meth, c, Q⟩, w⟩ := X
  obtain ⟨w1, w2, b, L, xs⟩ := Y
  obtain ⟨hx, hb, hml, hown, hts, hK, hi1, hi2, hap, hlo1, hlo2, he, hX, hbl, hfr, hlo, hcl, hsl⟩ := F
  have hK0 : va_K w2.2.2.2 vwCl (tys w2) s := by rw [show tys w2 = tys w1 from by unfold tys; rw [he], he]; exact hK
  intro H locs ls hP1 hP2 hS hlv
  have hM2 := hM H.size
  have hA : ∀ q, AA false w2 H.size q → s.heap.size ≤ q := fun q h => by
    rcases h with ⟨k, h1, h2⟩ | h
    · rw [h2]; exact hlo2 k h1
    · exact Nat.le_trans hS.1 h
  refine va_calli (va_runV (As := As) (rest := rest) ⟨hx, hb, hml, hown, hts⟩ hM2 (cwV n hts (gdV hw hk) rfl rfl rfl hw.2.2.2.2 ⟨Nat.le_trans hrm.1 hfr, Nat.le_trans hrm.2 hlo⟩) ⟨pre_blind, va_recv hK0 hP2 (q0 := 0) hc.1 ((wl_get ho.1).trans (by rw [ho.2])), fun U hU hW => ⟨rfl, by rw [hU], by rw [hU]; exact hP2, va_K.moved hW.alike hK0⟩⟩ rfl hn hlv.1 rfl (lv_room hcat) hdg ⟨hcl, hsl⟩) hS (fun q _ h => hA q h) hA (fun v0 u t1 H1 locs1 ht hvm hw1 hB hz1 hk1 hS1 => ?_)
  cases hw1
  rw [ht] at hB
  exact g H1 locs1 ls (other_kept (fun i j h1 h2 e => hap j i h2 h1 e.symm) hP1 hk1) hB hS1 hlv
theorem l_vl2 (F : FL X Y) {s1 : SS} {v : Int64} {y : MethodName} {b1 : ByteArray} {maxL n idx a1 a2 N ci : Nat} {ret : Option FieldType} {As st : List Value} {C : String} {T : u_T} {fs : (Nat → Int32) → List Value} (hM : ML false X.1.2.1 y b1 maxL ret { frames := a1, cells := 0, slots := 0, locals := a2 } Y.2.1 (rf Y.2.1 0 :: As) τ (v, s1)) (hw : MwV C y b1 maxL ret n) (hk : Cond.methodLink RL idx y ∈ wsL_law) (hn : As.length = n) (hrm : a1 + 1 ≤ 2048 ∧ 8 + (maxL + 11) + a2 ≤ 84000) (ho : IsO false Y.2.1 0 ci fs) (hc : Cl ci C T N) (hst : st = As.reverse ++ rf Y.2.1 0 :: rest) (hcat : (rest.map fun v => v.category).sum ≤ 8) (hdg : decode cL_law pc = .ok (.invokevirtual idx, 3)) (g : GL X Y (pc + 3) lv (.long v :: rest) σ s1) : GL X Y pc lv st σ τ := by
  subst hst
  obtain ⟨⟨p, l, e, R, s, m, args⟩, ⟨below, meth, c, Q⟩, w⟩ := X
  obtain ⟨w1, w2, b, L, xs⟩ := Y
  obtain ⟨hx, hb, hml, hown, hts, hK, hi1, hi2, hap, hlo1, hlo2, he, hX, hbl, hfr, hlo, hcl, hsl⟩ := F
  have hK0 : va_K w2.2.2.2 vwCl (tys w2) s := by rw [show tys w2 = tys w1 from by unfold tys; rw [he], he]; exact hK
  intro H locs ls hP1 hP2 hS hlv
  have hM2 := hM H.size
  have hA : ∀ q, AA false w2 H.size q → s.heap.size ≤ q := fun q h => by
    rcases h with ⟨k, h1, h2⟩ | h
    · rw [h2]; exact hlo2 k h1
    · exact Nat.le_trans hS.1 h
  refine va_calll (va_runV (As := As) (rest := rest) ⟨hx, hb, hml, hown, hts⟩ hM2 (cwV n hts (gdV hw hk) rfl rfl rfl hw.2.2.2.2 ⟨Nat.le_trans hrm.1 hfr, Nat.le_trans hrm.2 hlo⟩) ⟨pre_blind, va_recv hK0 hP2 (q0 := 0) hc.1 ((wl_get ho.1).trans (by rw [ho.2])), fun U hU hW => ⟨rfl, by rw [hU], by rw [hU]; exact hP2, va_K.moved hW.alike hK0⟩⟩ rfl hn hlv.1 rfl (lv_room hcat) hdg ⟨hcl, hsl⟩) hS (fun q _ h => hA q h) hA (fun v0 u t1 H1 locs1 ht hvm hw1 hB hz1 hk1 hS1 => ?_)
  cases hw1
  rw [ht] at hB
  exact g H1 locs1 ls (other_kept (fun i j h1 h2 e => hap j i h2 h1 e.symm) hP1 hk1) hB hS1 hlv
end LAW
def S_machine (N : Nat) (Rel : Nat → SS → SS → Prop) : Prop := ∀ (k : Nat) (a0 a1 : Int32) (σ τ : SS), k < 512 → Rel k σ τ → ∃ (v : Int32) (σ1 τ1 : SS), fX5_machine N a0 a1 σ = some (v, σ1) ∧ fX6_machine N a0 a1 τ = some (v, τ1) ∧ Rel (k + 1) σ1 τ1
def S_work (N : Nat) (Rel : Nat → SS → SS → Prop) : Prop := ∀ (k : Nat) (a0 a1 a2 a3 a4 : Int32) (σ τ : SS), k < 512 → Rel k σ τ → ∃ (v : Int32) (σ1 τ1 : SS), fX5_work N a0 a1 a2 a3 a4 σ = some (v, σ1) ∧ fX6_work N a0 a1 a2 a3 a4 τ = some (v, τ1) ∧ Rel (k + 1) σ1 τ1
def S_move (N : Nat) (Rel : Nat → SS → SS → Prop) : Prop := ∀ (k : Nat) (a0 a1 : Int32) (σ τ : SS), k < 512 → Rel k σ τ → ∃ (v : Int32) (σ1 τ1 : SS), fX5_move N a0 a1 σ = some (v, σ1) ∧ fX6_move N a0 a1 τ = some (v, τ1) ∧ Rel (k + 1) σ1 τ1
def S_price (N : Nat) (Rel : Nat → SS → SS → Prop) : Prop := ∀ (k : Nat) (a0 : Int32) (σ τ : SS), k < 512 → Rel k σ τ → ∃ (v : Int32) (σ1 τ1 : SS), fX5_price N a0 σ = some (v, σ1) ∧ fX6_price N a0 τ = some (v, τ1) ∧ Rel (k + 1) σ1 τ1
def S_about (N : Nat) (Rel : Nat → SS → SS → Prop) : Prop := ∀ (k : Nat) (a0 a1 : Int32) (σ τ : SS), k < 512 → Rel k σ τ → ∃ (v : Int32) (σ1 τ1 : SS), fX5_about N a0 a1 σ = some (v, σ1) ∧ fX6_about N a0 a1 τ = some (v, τ1) ∧ Rel (k + 1) σ1 τ1
def S_free (N : Nat) (Rel : Nat → SS → SS → Prop) : Prop := ∀ (k : Nat) (a0 a1 : Int32) (σ τ : SS), k < 512 → Rel k σ τ → ∃ (v : Int32) (σ1 τ1 : SS), fX5_free N a0 a1 σ = some (v, σ1) ∧ fX6_free N a0 a1 τ = some (v, τ1) ∧ Rel (k + 1) σ1 τ1
def S_fewest (N : Nat) (Rel : Nat → SS → SS → Prop) : Prop := ∀ (k : Nat) (σ τ : SS), k < 512 → Rel k σ τ → ∃ (v : Int32) (σ1 τ1 : SS), fX5_fewest N  σ = some (v, σ1) ∧ fX6_fewest N  τ = some (v, τ1) ∧ Rel (k + 1) σ1 τ1
def S_plan (N : Nat) (Rel : Nat → SS → SS → Prop) : Prop := ∀ (k : Nat) (a0 a1 a2 a3 : Int32) (σ τ : SS), k < 512 → Rel k σ τ → ∃ (v : Int32) (σ1 τ1 : SS), fX5_plan N a0 a1 a2 a3 σ = some (v, σ1) ∧ fX6_plan N a0 a1 a2 a3 τ = some (v, τ1) ∧ Rel (k + 1) σ1 τ1
def S_planAt (N : Nat) (Rel : Nat → SS → SS → Prop) : Prop := ∀ (k : Nat) (a0 : Int32) (σ τ : SS), k < 512 → Rel k σ τ → ∃ (v : Int32) (σ1 τ1 : SS), fX5_planAt N a0 σ = some (v, σ1) ∧ fX6_planAt N a0 τ = some (v, τ1) ∧ Rel (k + 1) σ1 τ1
def S_tries (N : Nat) (Rel : Nat → SS → SS → Prop) : Prop := ∀ (k : Nat) (σ τ : SS), k < 512 → Rel k σ τ → ∃ (v : Int32) (σ1 τ1 : SS), fX5_tries N  σ = some (v, σ1) ∧ fX6_tries N  τ = some (v, τ1) ∧ Rel (k + 1) σ1 τ1
def S_cost (N : Nat) (Rel : Nat → SS → SS → Prop) : Prop := ∀ (k : Nat) (σ τ : SS), k < 512 → Rel k σ τ → ∃ (v : Int32) (σ1 τ1 : SS), fX5_cost N  σ = some (v, σ1) ∧ fX6_cost N  τ = some (v, τ1) ∧ Rel (k + 1) σ1 τ1
def S_order (N : Nat) (Rel : Nat → SS → SS → Prop) : Prop := ∀ (k : Nat) (σ τ : SS), k < 512 → Rel k σ τ → ∃ (v : Int32) (σ1 τ1 : SS), fX5_order N  σ = some (v, σ1) ∧ fX6_order N  τ = some (v, τ1) ∧ Rel (k + 1) σ1 τ1
def S_orderAt (N : Nat) (Rel : Nat → SS → SS → Prop) : Prop := ∀ (k : Nat) (a0 : Int32) (σ τ : SS), k < 512 → Rel k σ τ → ∃ (v : Int32) (σ1 τ1 : SS), fX5_orderAt N a0 σ = some (v, σ1) ∧ fX6_orderAt N a0 τ = some (v, τ1) ∧ Rel (k + 1) σ1 τ1
def S_third (N : Nat) (Rel : Nat → SS → SS → Prop) : Prop := ∀ (k : Nat) (σ τ : SS), k < 512 → Rel k σ τ → ∃ (v : Int32) (σ1 τ1 : SS), fX5_third N  σ = some (v, σ1) ∧ fX6_third N  τ = some (v, τ1) ∧ Rel (k + 1) σ1 τ1
def S_byStop (N : Nat) (Rel : Nat → SS → SS → Prop) : Prop := ∀ (k : Nat) (σ τ : SS), k < 512 → Rel k σ τ → ∃ (v : Int32) (σ1 τ1 : SS), fX5_byStop N  σ = some (v, σ1) ∧ fX6_byStop N  τ = some (v, τ1) ∧ Rel (k + 1) σ1 τ1
def S_step (N : Nat) (Rel : Nat → SS → SS → Prop) : Prop := ∀ (k : Nat) (a0 : Int32) (σ τ : SS), k < 512 → (a0 = 0 ∨ a0 = 1) → Rel k σ τ → ∃ (v : Int32) (σ1 τ1 : SS), fX5_step N a0 σ = some (v, σ1) ∧ fX6_step N a0 τ = some (v, τ1) ∧ Rel (k + 1) σ1 τ1
def S_tick (N : Nat) (Rel : Nat → SS → SS → Prop) : Prop := ∀ (k : Nat) (a0 : Int32) (σ τ : SS), k < 512 → Rel k σ τ → ∃ (v : Int32) (σ1 τ1 : SS), fX5_tick N a0 σ = some (v, σ1) ∧ fX6_tick N a0 τ = some (v, τ1) ∧ Rel (k + 1) σ1 τ1
def S_wait (N : Nat) (Rel : Nat → SS → SS → Prop) : Prop := ∀ (k : Nat) (a0 : Int32) (σ τ : SS), k < 512 → Rel k σ τ → ∃ (v : Int32) (σ1 τ1 : SS), fX5_wait N a0 σ = some (v, σ1) ∧ fX6_wait N a0 τ = some (v, τ1) ∧ Rel (k + 1) σ1 τ1
def S_count (N : Nat) (Rel : Nat → SS → SS → Prop) : Prop := ∀ (k : Nat) (a0 : Int32) (σ τ : SS), k < 512 → Rel k σ τ → ∃ (v : Int32) (σ1 τ1 : SS), fX5_count N a0 σ = some (v, σ1) ∧ fX6_count N a0 τ = some (v, τ1) ∧ Rel (k + 1) σ1 τ1
def S_digest (N : Nat) (Rel : Nat → SS → SS → Prop) : Prop := ∀ (k : Nat) (σ τ : SS), k < 512 → Rel k σ τ → ∃ (v : Int64) (σ1 τ1 : SS), fX5_digest N  σ = some (v, σ1) ∧ fX6_digest N  τ = some (v, τ1) ∧ Rel (k + 1) σ1 τ1
def Sim (N : Nat) (Rel : Nat → SS → SS → Prop) : Prop := S_machine N Rel ∧ S_work N Rel ∧ S_move N Rel ∧ S_price N Rel ∧ S_about N Rel ∧ S_free N Rel ∧ S_fewest N Rel ∧ S_plan N Rel ∧ S_planAt N Rel ∧ S_tries N Rel ∧ S_cost N Rel ∧ S_order N Rel ∧ S_orderAt N Rel ∧ S_third N Rel ∧ S_byStop N Rel ∧ S_step N Rel ∧ S_tick N Rel ∧ S_wait N Rel ∧ S_count N Rel ∧ S_digest N Rel
