
def Pre (t : Bool) (w : Wd) (σ : SS) (sz : Nat) : State → Prop := fun U => U.heap.size = sz ∧ va_P w.2.2.2 vwCl (wl t w σ) U.heap ∧ va_K w.2.2.2 vwCl (tys w) U
def MI (t : Bool) (l : Launch) (y : MethodName) (b : ByteArray) (nL : Nat) (ret : Option FieldType) (rm : Room) (w : Wd) (args : List Value) (σ : SS) (res : Int32 × SS) : Prop := ∀ sz, Met l y (.code y b nL ret :: wsL_law) rm (va_Pc args (Pre t w σ sz)) (va_Qi (fun v u => (v, u) = res) (fun (u : SS) (T : State) => va_P w.2.2.2 vwCl (wl t w u) T.heap) (AA t w sz)) 0 0 (AA t w sz)
def ML (t : Bool) (l : Launch) (y : MethodName) (b : ByteArray) (nL : Nat) (ret : Option FieldType) (rm : Room) (w : Wd) (args : List Value) (σ : SS) (res : Int64 × SS) : Prop := ∀ sz, Met l y (.code y b nL ret :: wsL_law) rm (va_Pc args (Pre t w σ sz)) (va_Ql (fun v u => (v, u) = res) (fun (u : SS) (T : State) => va_P w.2.2.2 vwCl (wl t w u) T.heap) (AA t w sz)) 0 0 (AA t w sz)
def MV (t : Bool) (l : Launch) (y : MethodName) (b : ByteArray) (nL : Nat) (ret : Option FieldType) (rm : Room) (w : Wd) (args : List Value) (σ : SS) (res : SS) : Prop := ∀ sz, Met l y (.code y b nL ret :: wsL_law) rm (va_Pc args (Pre t w σ sz)) (va_Qv (fun u => u = res) (fun (u : SS) (T : State) => va_P w.2.2.2 vwCl (wl t w u) T.heap) (AA t w sz)) 0 0 (AA t w sz)
/-! a method's ends -/
def RI (t : Bool) (X : Cx) (cc : ByteArray) (nL : Nat) (res : Int32 × SS) : Prop := ∀ pc lv v σ1, decode cc pc = .ok (.ireturn, 1) → some (v, σ1) = some res → G t X nL pc lv [.int v] σ1
def RZ (t : Bool) (X : Cx) (cc : ByteArray) (nL : Nat) (res : Int32 × SS) : Prop := ∀ pc lv v σ1, decode cc pc = .ok (.ireturn, 1) → zk v (some (v, σ1)) = some res → G t X nL pc lv [.int v] σ1
def RL64 (t : Bool) (X : Cx) (cc : ByteArray) (nL : Nat) (res : Int64 × SS) : Prop := ∀ pc lv v σ1, decode cc pc = .ok (.lreturn, 1) → some (v, σ1) = some res → G t X nL pc lv [.long v] σ1
def RV (t : Bool) (X : Cx) (cc : ByteArray) (nL : Nat) (res : SS) : Prop := ∀ pc lv σ1, decode cc pc = .ok (.return_, 1) → some σ1 = some res → G t X nL pc lv [] σ1
section MK
variable {t : Bool} {l : Launch} {y : MethodName} {b : ByteArray} {nL : Nat} {rm : Room} {w : Wd} {args : List Value} {σ : SS}
theorem mk_i {res : Int32 × SS} (hy : plainName y.cls = true) (hi : inj t w) (ha : (lg_sl args).length ≤ nL) (body : ∀ X : Cx, X.2.2 = w → X.1.2.1 = l → Fx t X b y.cls nL rm.frames rm.locals → RI t X b nL res → G t X nL 0 (lv_args 0 args) [] σ) : MI t l y b nL (some .int) rm w args σ res := by
  intro sz
  refine Met.ofW (cc := b) (maxL := nL) (ret := some .int) hy rfl ?_
  intro p e s m argv below meth c s₁ B hml hv
  obtain ⟨rfl, hsz, hP, hK⟩ := hv
  have hts := atoms_spec (ws := .code y b nL (some .int) :: wsL_law) B.pre
  have hown : s.vm.findClass y.cls = some m.cls := findClass_of_methodNamed B.named
  have hlocks := B.notSynchronized
  subst hsz
  have hl := lv_entry args (n := nL) ha
  rw [lg_entry_eq]
  generalize (lg_sl args ++ List.replicate (nL - (lg_sl args).length) Slot.unset).toArray = ls at hl ⊢
  refine body ((p, l, e, rm, s, m, args.toArray), (below, meth, c, _), w) rfl rfl ⟨B.exec, B.bytes, hml, hown, fun v hv => hts v (List.mem_cons_of_mem _ hv), hK, hi, Nat.le_refl _, Nat.le_refl _, hlocks⟩ ?_ s.heap [] ls hP va_S.rf hl
  intro pc lv v σ1 hdg hr H locs ls1 hP1 hS1 hl1
  exact W.iret (v := v) B.exec B.bytes B.returns (fun T hT hW => ⟨⟨v, σ1, rfl, Option.some.inj hr, by rw [← hT] at hP1; exact hP1⟩, hS1.F hT⟩) hS1.2.2 hdg hlocks
theorem mk_z {res : Int32 × SS} (hy : plainName y.cls = true) (hi : inj t w) (ha : (lg_sl args).length ≤ nL) (body : ∀ X : Cx, X.2.2 = w → X.1.2.1 = l → Fx t X b y.cls nL rm.frames rm.locals → RZ t X b nL res → G t X nL 0 (lv_args 0 args) [] σ) : MI t l y b nL (some .boolean) rm w args σ res := by
  intro sz
  refine Met.ofW (cc := b) (maxL := nL) (ret := some .boolean) hy rfl ?_
  intro p e s m argv below meth c s₁ B hml hv
  obtain ⟨rfl, hsz, hP, hK⟩ := hv
  have hts := atoms_spec (ws := .code y b nL (some .boolean) :: wsL_law) B.pre
  have hown : s.vm.findClass y.cls = some m.cls := findClass_of_methodNamed B.named
  have hlocks := B.notSynchronized
  subst hsz
  have hl := lv_entry args (n := nL) ha
  rw [lg_entry_eq]
  generalize (lg_sl args ++ List.replicate (nL - (lg_sl args).length) Slot.unset).toArray = ls at hl ⊢
  refine body ((p, l, e, rm, s, m, args.toArray), (below, meth, c, _), w) rfl rfl ⟨B.exec, B.bytes, hml, hown, fun v hv => hts v (List.mem_cons_of_mem _ hv), hK, hi, Nat.le_refl _, Nat.le_refl _, hlocks⟩ ?_ s.heap [] ls hP va_S.rf hl
  intro pc lv v σ1 hdg hr H locs ls1 hP1 hS1 hl1
  obtain ⟨hz, hr⟩ := zk_some hr
  exact W.zret (v := v) (ty := .boolean) B.exec B.bytes B.returns (by rcases hz with rfl | rfl <;> rfl) (fun T hT hW => ⟨⟨v, σ1, rfl, Option.some.inj hr, by rw [← hT] at hP1; exact hP1⟩, hS1.F hT⟩) hS1.2.2 hdg hlocks
theorem mk_l {res : Int64 × SS} (hy : plainName y.cls = true) (hi : inj t w) (ha : (lg_sl args).length ≤ nL) (body : ∀ X : Cx, X.2.2 = w → X.1.2.1 = l → Fx t X b y.cls nL rm.frames rm.locals → RL64 t X b nL res → G t X nL 0 (lv_args 0 args) [] σ) : ML t l y b nL (some .long) rm w args σ res := by
  intro sz
  refine Met.ofW (cc := b) (maxL := nL) (ret := some .long) hy rfl ?_
  intro p e s m argv below meth c s₁ B hml hv
  obtain ⟨rfl, hsz, hP, hK⟩ := hv
  have hts := atoms_spec (ws := .code y b nL (some .long) :: wsL_law) B.pre
  have hown : s.vm.findClass y.cls = some m.cls := findClass_of_methodNamed B.named
  have hlocks := B.notSynchronized
  subst hsz
  have hl := lv_entry args (n := nL) ha
  rw [lg_entry_eq]
  generalize (lg_sl args ++ List.replicate (nL - (lg_sl args).length) Slot.unset).toArray = ls at hl ⊢
  refine body ((p, l, e, rm, s, m, args.toArray), (below, meth, c, _), w) rfl rfl ⟨B.exec, B.bytes, hml, hown, fun v hv => hts v (List.mem_cons_of_mem _ hv), hK, hi, Nat.le_refl _, Nat.le_refl _, hlocks⟩ ?_ s.heap [] ls hP va_S.rf hl
  intro pc lv v σ1 hdg hr H locs ls1 hP1 hS1 hl1
  exact W.lret (v := v) B.exec B.bytes B.returns (fun T hT hW => ⟨⟨v, σ1, rfl, Option.some.inj hr, by rw [← hT] at hP1; exact hP1⟩, hS1.F hT⟩) hS1.2.2 hdg hlocks
theorem mk_v {res : SS} (hy : plainName y.cls = true) (hi : inj t w) (ha : (lg_sl args).length ≤ nL) (body : ∀ X : Cx, X.2.2 = w → X.1.2.1 = l → Fx t X b y.cls nL rm.frames rm.locals → RV t X b nL res → G t X nL 0 (lv_args 0 args) [] σ) : MV t l y b nL none rm w args σ res := by
  intro sz
  refine Met.ofW (cc := b) (maxL := nL) (ret := none) hy rfl ?_
  intro p e s m argv below meth c s₁ B hml hv
  obtain ⟨rfl, hsz, hP, hK⟩ := hv
  have hts := atoms_spec (ws := .code y b nL none :: wsL_law) B.pre
  have hown : s.vm.findClass y.cls = some m.cls := findClass_of_methodNamed B.named
  have hlocks := B.notSynchronized
  subst hsz
  have hl := lv_entry args (n := nL) ha
  rw [lg_entry_eq]
  generalize (lg_sl args ++ List.replicate (nL - (lg_sl args).length) Slot.unset).toArray = ls at hl ⊢
  refine body ((p, l, e, rm, s, m, args.toArray), (below, meth, c, _), w) rfl rfl ⟨B.exec, B.bytes, hml, hown, fun v hv => hts v (List.mem_cons_of_mem _ hv), hK, hi, Nat.le_refl _, Nat.le_refl _, hlocks⟩ ?_ s.heap [] ls hP va_S.rf hl
  intro pc lv σ1 hdg hr H locs ls1 hP1 hS1 hl1
  exact W.vret B.exec B.bytes B.returns (fun T hT hW => ⟨⟨σ1, rfl, Option.some.inj hr, by rw [← hT] at hP1; exact hP1⟩, hS1.F hT⟩) hS1.2.2 hdg hlocks
end MK
/-! calls -/
def MwV (C : String) (y : MethodName) (b : ByteArray) (nL : Nat) (ret : Option FieldType) (n : Nat) : Prop := Cond.instanceMethod y ∈ wsL_law ∧ Cond.selects C y y ∈ wsL_law ∧ Cond.initialized C ∈ wsL_law ∧ Cond.code y b nL ret ∈ wsL_law ∧ (y.cls = C ∧ y.cls ≠ "java/lang/invoke/MethodHandle" ∧ y.cls ≠ "java/lang/invoke/VarHandle" ∧ (parseMethodDescriptor y.desc).map (fun d => d.parameters.length) = some n)
def MwS (own : String) (y : MethodName) (b : ByteArray) (nL : Nat) (ret : Option FieldType) (n : Nat) : Prop := Cond.static y ∈ wsL_law ∧ Cond.initialized own ∈ wsL_law ∧ Cond.code y b nL ret ∈ wsL_law ∧ (y.cls = own ∧ y.cls ≠ "java/lang/invoke/MethodHandle" ∧ y.cls ≠ "java/lang/invoke/VarHandle" ∧ (parseMethodDescriptor y.desc).map (fun d => d.parameters.length) = some n)
theorem gdV {own C : String} {idx nL n : Nat} {y : MethodName} {b : ByteArray} {ret : Option FieldType} (hw : MwV C y b nL ret n) (hk : Cond.methodLink own idx y ∈ wsL_law) : GoodIn wsL_law (wsV own idx C y (.code y b nL ret :: wsL_law)) := by
  have hm : ∀ v ∈ wsV own idx C y (.code y b nL ret :: wsL_law), v ∈ wsL_law := by
    intro v hv
    rcases List.mem_append.mp hv with h | h
    · rcases List.mem_cons.mp h with rfl | h
      · exact hk
      · rcases List.mem_cons.mp h with rfl | h
        · exact hw.1
        · rcases List.mem_cons.mp h with rfl | h
          · exact hw.2.1
          · rcases List.mem_cons.mp h with rfl | h
            · exact hw.2.2.1
            · cases h
    · rcases List.mem_cons.mp h with rfl | h
      · exact hw.2.2.2.1
      · exact h
  exact fun v hv => ⟨hm v hv, (wLG v (hm v hv)).2⟩
theorem gdS {own : String} {idx nL n : Nat} {y : MethodName} {b : ByteArray} {ret : Option FieldType} (hw : MwS own y b nL ret n) (hk : Cond.methodLink own idx y ∈ wsL_law) : GoodIn wsL_law (wsS own idx y (.code y b nL ret :: wsL_law)) := by
  have hm : ∀ v ∈ wsS own idx y (.code y b nL ret :: wsL_law), v ∈ wsL_law := by
    intro v hv
    rcases List.mem_append.mp hv with h | h
    · rcases List.mem_cons.mp h with rfl | h
      · exact hk
      · rcases List.mem_cons.mp h with rfl | h
        · exact hw.1
        · rcases List.mem_cons.mp h with rfl | h
          · exact hw.2.1
          · cases h
    · rcases List.mem_cons.mp h with rfl | h
      · exact hw.2.2.1
      · exact h
  exact fun v hv => ⟨hm v hv, (wLG v (hm v hv)).2⟩
theorem pre_blind {t : Bool} {w : Wd} {σ : SS} {sz : Nat} {args : List Value} : FrameBlind (va_Pc args (Pre t w σ sz)) := fun a U g mk q => by
  obtain ⟨q0, q1, qP, qK⟩ := q
  exact ⟨q0, q1, qP, va_K.moved (u := U) (U := U.calling g mk a) (Vm.Alike.refl U.vm) qK⟩
theorem AA_up {t : Bool} {w : Wd} {a b q : Nat} (h : b ≤ a) (hq : AA t w a q) : AA t w b q := by
  rcases hq with hq | hq
  · exact Or.inl hq
  · exact Or.inr (Nat.le_trans h hq)
section CALLS
variable {t : Bool} {X : Cx} {cc : ByteArray} {own : String} {nL fr lo pc : Nat} {lv : List (Nat × Value)} {rest : List Value} {σ : SS} {α : Type} {r : α}
variable {y : MethodName} {b : ByteArray} {maxL n idx : Nat} {ret : Option FieldType} {a1 a2 : Nat} {As st : List Value} {C : String} {ci k N : Nat} {T : u_T} {fs : (Nat → Int32) → List Value}
theorem g_vi (F : Fx t X cc own nL fr lo) {fv : Option (Int32 × SS)} {kk : Int32 → SS → Option α} (hM : ∀ res, fv = some res → MI t X.1.2.1 y b maxL ret { frames := a1, cells := 0, slots := 0, locals := a2 } X.2.2 (rf X.2.2 k :: As) σ res) (hw : MwV C y b maxL ret n) (hk : Cond.methodLink own idx y ∈ wsL_law) (hn : As.length = n) (hrm : a1 + 1 ≤ fr ∧ 8 + (maxL + 11) + a2 ≤ lo) (ho : IsO t X.2.2 k ci fs) (hcl : Cl ci C T N) (hst : st = As.reverse ++ rf X.2.2 k :: rest) (hcat : (rest.map fun v => v.category).sum ≤ 8) (hdg : decode cc pc = .ok (.invokevirtual idx, 3)) (h : cali fv kk = some r) (g : ∀ v σ1, kk v σ1 = some r → G t X nL (pc + 3) lv (.int v :: rest) σ1) : G t X nL pc lv st σ := by
  obtain ⟨v0, s0, e1, e2⟩ := cali_some h
  have hM1 := hM (v0, s0) e1
  obtain ⟨⟨p, l, e, R, s, m, args⟩, ⟨below, meth, c, Q⟩, w⟩ := X
  obtain ⟨hx, hb, hml, hown, hts, hK, hi, hfr, hlo, hlk⟩ := F
  intro H locs ls hP hS hl
  subst hst
  have hM2 := hM1 H.size
  refine va_calli (va_runV (As := As) (rest := rest) ⟨hx, hb, hml, hown, hts⟩ hM2 (cwV n hts (gdV hw hk) rfl rfl rfl hw.2.2.2.2 ⟨Nat.le_trans hrm.1 hfr, Nat.le_trans hrm.2 hlo⟩) ⟨pre_blind, va_recv hK hP (q0 := k) hcl.1 ((wl_get ho.1).trans (by rw [ho.2])), fun U hU hW => ⟨rfl, by rw [hU], by rw [hU]; exact hP, va_K.moved hW.alike hK⟩⟩ rfl hn hl.1 rfl (lv_room hcat) hdg ⟨Nat.zero_le _, Nat.zero_le _⟩) hS (fun q _ h => AA_up hS.1 h) (fun q h => AA_up hS.1 h) (fun v u t1 H1 locs1 ht hvm hw1 hB hz1 hk1 hS1 => ?_)
  cases hw1
  rw [ht] at hB
  exact g _ _ e2 H1 locs1 ls hB hS1 hl
theorem g_vl (F : Fx t X cc own nL fr lo) {fv : Option (Int64 × SS)} {kk : Int64 → SS → Option α} (hM : ∀ res, fv = some res → ML t X.1.2.1 y b maxL ret { frames := a1, cells := 0, slots := 0, locals := a2 } X.2.2 (rf X.2.2 k :: As) σ res) (hw : MwV C y b maxL ret n) (hk : Cond.methodLink own idx y ∈ wsL_law) (hn : As.length = n) (hrm : a1 + 1 ≤ fr ∧ 8 + (maxL + 11) + a2 ≤ lo) (ho : IsO t X.2.2 k ci fs) (hcl : Cl ci C T N) (hst : st = As.reverse ++ rf X.2.2 k :: rest) (hcat : (rest.map fun v => v.category).sum ≤ 8) (hdg : decode cc pc = .ok (.invokevirtual idx, 3)) (h : call fv kk = some r) (g : ∀ v σ1, kk v σ1 = some r → G t X nL (pc + 3) lv (.long v :: rest) σ1) : G t X nL pc lv st σ := by
  obtain ⟨v0, s0, e1, e2⟩ := call_some h
  have hM1 := hM (v0, s0) e1
  obtain ⟨⟨p, l, e, R, s, m, args⟩, ⟨below, meth, c, Q⟩, w⟩ := X
  obtain ⟨hx, hb, hml, hown, hts, hK, hi, hfr, hlo, hlk⟩ := F
  intro H locs ls hP hS hl
  subst hst
  have hM2 := hM1 H.size
  refine va_calll (va_runV (As := As) (rest := rest) ⟨hx, hb, hml, hown, hts⟩ hM2 (cwV n hts (gdV hw hk) rfl rfl rfl hw.2.2.2.2 ⟨Nat.le_trans hrm.1 hfr, Nat.le_trans hrm.2 hlo⟩) ⟨pre_blind, va_recv hK hP (q0 := k) hcl.1 ((wl_get ho.1).trans (by rw [ho.2])), fun U hU hW => ⟨rfl, by rw [hU], by rw [hU]; exact hP, va_K.moved hW.alike hK⟩⟩ rfl hn hl.1 rfl (lv_room hcat) hdg ⟨Nat.zero_le _, Nat.zero_le _⟩) hS (fun q _ h => AA_up hS.1 h) (fun q h => AA_up hS.1 h) (fun v u t1 H1 locs1 ht hvm hw1 hB hz1 hk1 hS1 => ?_)
  cases hw1
  rw [ht] at hB
  exact g _ _ e2 H1 locs1 ls hB hS1 hl
theorem g_vv (F : Fx t X cc own nL fr lo) {fv : Option SS} {kk : SS → Option α} (hM : ∀ res, fv = some res → MV t X.1.2.1 y b maxL ret { frames := a1, cells := 0, slots := 0, locals := a2 } X.2.2 (rf X.2.2 k :: As) σ res) (hw : MwV C y b maxL ret n) (hk : Cond.methodLink own idx y ∈ wsL_law) (hn : As.length = n) (hrm : a1 + 1 ≤ fr ∧ 8 + (maxL + 11) + a2 ≤ lo) (ho : IsO t X.2.2 k ci fs) (hcl : Cl ci C T N) (hst : st = As.reverse ++ rf X.2.2 k :: rest) (hcat : (rest.map fun v => v.category).sum ≤ 8) (hdg : decode cc pc = .ok (.invokevirtual idx, 3)) (h : calv fv kk = some r) (g : ∀ σ1, kk σ1 = some r → G t X nL (pc + 3) lv (rest) σ1) : G t X nL pc lv st σ := by
  obtain ⟨s0, e1, e2⟩ := calv_some h
  have hM1 := hM s0 e1
  obtain ⟨⟨p, l, e, R, s, m, args⟩, ⟨below, meth, c, Q⟩, w⟩ := X
  obtain ⟨hx, hb, hml, hown, hts, hK, hi, hfr, hlo, hlk⟩ := F
  intro H locs ls hP hS hl
  subst hst
  have hM2 := hM1 H.size
  refine va_callv (va_runV (As := As) (rest := rest) ⟨hx, hb, hml, hown, hts⟩ hM2 (cwV n hts (gdV hw hk) rfl rfl rfl hw.2.2.2.2 ⟨Nat.le_trans hrm.1 hfr, Nat.le_trans hrm.2 hlo⟩) ⟨pre_blind, va_recv hK hP (q0 := k) hcl.1 ((wl_get ho.1).trans (by rw [ho.2])), fun U hU hW => ⟨rfl, by rw [hU], by rw [hU]; exact hP, va_K.moved hW.alike hK⟩⟩ rfl hn hl.1 rfl (lv_room hcat) hdg ⟨Nat.zero_le _, Nat.zero_le _⟩) hS (fun q _ h => AA_up hS.1 h) (fun q h => AA_up hS.1 h) (fun u t1 H1 locs1 ht hvm hw1 hB hz1 hk1 hS1 => ?_)
  subst hw1
  rw [ht] at hB
  exact g _ e2 H1 locs1 ls hB hS1 hl
theorem g_si (F : Fx t X cc own nL fr lo) {fv : Option (Int32 × SS)} {kk : Int32 → SS → Option α} (hM : ∀ res, fv = some res → MI t X.1.2.1 y b maxL ret { frames := a1, cells := 0, slots := 0, locals := a2 } X.2.2 As σ res) (hw : MwS own y b maxL ret n) (hk : Cond.methodLink own idx y ∈ wsL_law) (hn : As.length = n) (hrm : a1 + 1 ≤ fr ∧ 8 + (maxL + 11) + a2 ≤ lo) (hst : st = As.reverse ++ rest) (hcat : (rest.map fun v => v.category).sum ≤ 8) (hdg : decode cc pc = .ok (.invokestatic idx, 3)) (h : cali fv kk = some r) (g : ∀ v σ1, kk v σ1 = some r → G t X nL (pc + 3) lv (.int v :: rest) σ1) : G t X nL pc lv st σ := by
  obtain ⟨v0, s0, e1, e2⟩ := cali_some h
  have hM1 := hM (v0, s0) e1
  obtain ⟨⟨p, l, e, R, s, m, args⟩, ⟨below, meth, c, Q⟩, w⟩ := X
  obtain ⟨hx, hb, hml, hown, hts, hK, hi, hfr, hlo, hlk⟩ := F
  intro H locs ls hP hS hl
  subst hst
  have hM2 := hM1 H.size
  refine va_calli (va_runS (As := As) (rest := rest) ⟨hx, hb, hml, hown, hts⟩ hM2 (cwS n hts (gdS hw hk) rfl rfl rfl hw.2.2.2 ⟨Nat.le_trans hrm.1 hfr, Nat.le_trans hrm.2 hlo⟩) ⟨pre_blind, fun U hU hW => ⟨rfl, by rw [hU], by rw [hU]; exact hP, va_K.moved hW.alike hK⟩⟩ rfl hn hl.1 rfl (lv_room hcat) hdg ⟨Nat.zero_le _, Nat.zero_le _⟩) hS (fun q _ h => AA_up hS.1 h) (fun q h => AA_up hS.1 h) (fun v u t1 H1 locs1 ht hvm hw1 hB hz1 hk1 hS1 => ?_)
  cases hw1
  rw [ht] at hB
  exact g _ _ e2 H1 locs1 ls hB hS1 hl
theorem g_sl (F : Fx t X cc own nL fr lo) {fv : Option (Int64 × SS)} {kk : Int64 → SS → Option α} (hM : ∀ res, fv = some res → ML t X.1.2.1 y b maxL ret { frames := a1, cells := 0, slots := 0, locals := a2 } X.2.2 As σ res) (hw : MwS own y b maxL ret n) (hk : Cond.methodLink own idx y ∈ wsL_law) (hn : As.length = n) (hrm : a1 + 1 ≤ fr ∧ 8 + (maxL + 11) + a2 ≤ lo) (hst : st = As.reverse ++ rest) (hcat : (rest.map fun v => v.category).sum ≤ 8) (hdg : decode cc pc = .ok (.invokestatic idx, 3)) (h : call fv kk = some r) (g : ∀ v σ1, kk v σ1 = some r → G t X nL (pc + 3) lv (.long v :: rest) σ1) : G t X nL pc lv st σ := by
  obtain ⟨v0, s0, e1, e2⟩ := call_some h
  have hM1 := hM (v0, s0) e1
  obtain ⟨⟨p, l, e, R, s, m, args⟩, ⟨below, meth, c, Q⟩, w⟩ := X
  obtain ⟨hx, hb, hml, hown, hts, hK, hi, hfr, hlo, hlk⟩ := F
  intro H locs ls hP hS hl
  subst hst
  have hM2 := hM1 H.size
  refine va_calll (va_runS (As := As) (rest := rest) ⟨hx, hb, hml, hown, hts⟩ hM2 (cwS n hts (gdS hw hk) rfl rfl rfl hw.2.2.2 ⟨Nat.le_trans hrm.1 hfr, Nat.le_trans hrm.2 hlo⟩) ⟨pre_blind, fun U hU hW => ⟨rfl, by rw [hU], by rw [hU]; exact hP, va_K.moved hW.alike hK⟩⟩ rfl hn hl.1 rfl (lv_room hcat) hdg ⟨Nat.zero_le _, Nat.zero_le _⟩) hS (fun q _ h => AA_up hS.1 h) (fun q h => AA_up hS.1 h) (fun v u t1 H1 locs1 ht hvm hw1 hB hz1 hk1 hS1 => ?_)
  cases hw1
  rw [ht] at hB
  exact g _ _ e2 H1 locs1 ls hB hS1 hl
theorem g_sv (F : Fx t X cc own nL fr lo) {fv : Option SS} {kk : SS → Option α} (hM : ∀ res, fv = some res → MV t X.1.2.1 y b maxL ret { frames := a1, cells := 0, slots := 0, locals := a2 } X.2.2 As σ res) (hw : MwS own y b maxL ret n) (hk : Cond.methodLink own idx y ∈ wsL_law) (hn : As.length = n) (hrm : a1 + 1 ≤ fr ∧ 8 + (maxL + 11) + a2 ≤ lo) (hst : st = As.reverse ++ rest) (hcat : (rest.map fun v => v.category).sum ≤ 8) (hdg : decode cc pc = .ok (.invokestatic idx, 3)) (h : calv fv kk = some r) (g : ∀ σ1, kk σ1 = some r → G t X nL (pc + 3) lv (rest) σ1) : G t X nL pc lv st σ := by
  obtain ⟨s0, e1, e2⟩ := calv_some h
  have hM1 := hM s0 e1
  obtain ⟨⟨p, l, e, R, s, m, args⟩, ⟨below, meth, c, Q⟩, w⟩ := X
  obtain ⟨hx, hb, hml, hown, hts, hK, hi, hfr, hlo, hlk⟩ := F
  intro H locs ls hP hS hl
  subst hst
  have hM2 := hM1 H.size
  refine va_callv (va_runS (As := As) (rest := rest) ⟨hx, hb, hml, hown, hts⟩ hM2 (cwS n hts (gdS hw hk) rfl rfl rfl hw.2.2.2 ⟨Nat.le_trans hrm.1 hfr, Nat.le_trans hrm.2 hlo⟩) ⟨pre_blind, fun U hU hW => ⟨rfl, by rw [hU], by rw [hU]; exact hP, va_K.moved hW.alike hK⟩⟩ rfl hn hl.1 rfl (lv_room hcat) hdg ⟨Nat.zero_le _, Nat.zero_le _⟩) hS (fun q _ h => AA_up hS.1 h) (fun q h => AA_up hS.1 h) (fun u t1 H1 locs1 ht hvm hw1 hB hz1 hk1 hS1 => ?_)
  subst hw1
  rw [ht] at hB
  exact g _ e2 H1 locs1 ls hB hS1 hl

end CALLS
