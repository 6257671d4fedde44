/-! calls -/
def kws (c : Nat) : List Cond := Cond.code (kaq c).1 (kaq c).2.1 (kaq c).2.2.1 (kaq c).2.2.2.1 :: kG
def krm (d mc ms : Nat) : Room := { frames := d + 8, cells := mc, slots := ms, locals := 80 * (d + 8) }
theorem kG_good : GoodIn kG kG := fun w hw => ⟨hw, good_of_word (List.mem_filter.mp hw).2⟩
theorem kws_good {c : Nat} (h : Cond.code (kaq c).1 (kaq c).2.1 (kaq c).2.2.1 (kaq c).2.2.2.1 ∈ kG) : GoodIn kG (kws c) := fun w hw => by
  rcases List.mem_cons.mp hw with rfl | hw
  · exact kG_good _ h
  · exact kG_good _ hw
theorem kdecl_0 (f : Nat) (b : ByteArray) (q : Nat × Instr × Nat) (h : (kdecl f b 0)[0]? = some q) : q.1 = 0 := by
  cases f with
  | zero => simp [kdecl] at h
  | succ f =>
    rw [kdecl] at h
    split at h
    · split at h
      · rw [List.getElem?_cons_zero] at h
        cases h
        rfl
      · simp at h
    · simp at h
theorem kofs_0 (c : Nat) : kofs c 0 = 0 := by
  unfold kofs
  split
  · rename_i q hq
    exact kdecl_0 _ _ q hq
  · rename_i hq
    rw [Nat.zero_sub, hq]
theorem kargs_len (base : Nat) (ad : Nat → Nat) : ∀ vs : List kV, (lg_sl (vs.map (kc base ad))).length = (kargs vs).length
  | [] => rfl
  | v :: vs => by
    have ih := kargs_len base ad vs
    unfold lg_sl at ih ⊢
    rw [List.map_cons, List.flatMap_cons, List.length_append, ih, kargs, kn_cat]
    by_cases hv : kislong v = true
    · rw [if_pos hv, if_pos (by rw [kwt, if_pos hv])]; simp; omega
    · rw [if_neg hv, if_neg (by rw [kwt, if_neg hv]; decide)]; simp; omega
theorem kargs_get (base : Nat) (ad : Nat → Nat) : ∀ (vs : List kV) (o i : Nat) (v : kV), (kargs vs)[i]? = some (some v) → v ∈ vs ∧ (o + i, kc base ad v) ∈ lv_args o (vs.map (kc base ad))
  | [], o, i, v, h => by simp [kargs] at h
  | w :: vs, o, i, v, h => by
    rw [kargs] at h
    rw [List.map_cons, lv_args, kn_cat]
    by_cases hw : kislong w = true
    · rw [if_pos hw] at h
      rw [if_pos (by rw [kwt, if_pos hw])]
      match i, h with
      | 0, h =>
        rw [List.getElem?_cons_zero] at h
        cases h
        exact ⟨List.mem_cons_self, List.mem_cons_self⟩
      | 1, h =>
        rw [List.getElem?_cons_succ, List.getElem?_cons_zero] at h
        cases h
      | i + 2, h =>
        rw [List.getElem?_cons_succ, List.getElem?_cons_succ] at h
        obtain ⟨h1, h2⟩ := kargs_get base ad vs (o + 2) i v h
        rw [show o + 2 + i = o + (i + 2) by omega] at h2
        exact ⟨List.mem_cons_of_mem _ h1, List.mem_cons_of_mem _ h2⟩
    · rw [if_neg hw] at h
      rw [if_neg (by rw [kwt, if_neg hw]; decide)]
      match i, h with
      | 0, h =>
        rw [List.getElem?_cons_zero] at h
        cases h
        exact ⟨List.mem_cons_self, List.mem_cons_self⟩
      | i + 1, h =>
        rw [List.getElem?_cons_succ] at h
        obtain ⟨h1, h2⟩ := kargs_get base ad vs (o + 1) i v h
        rw [show o + 1 + i = o + (i + 1) by omega] at h2
        exact ⟨List.mem_cons_of_mem _ h1, List.mem_cons_of_mem _ h2⟩
theorem kent_get {vs : List kV} {n i : Nat} {v : kV} (h : (kent vs n)[i]? = some (some v)) : (kargs vs)[i]? = some (some v) := by
  unfold kent at h
  by_cases hi : i < (kargs vs).length
  · rw [List.getElem?_append_left hi] at h
    exact h
  · rw [List.getElem?_append_right (by omega), List.getElem?_replicate] at h
    split at h <;> simp at h
theorem kMet {l : Launch} {c d mc ms base : Nat} {ad : Nat → Nat} {cT : Nat → ClassId} {D : va_G} {sc : List Int} {vs : List kV} {h h' : kH} {rv : Option kV} (hpl : plainFor (kaq c).1 = true) (hon : kon (kaq c).2.2.2.2 = (kaq c).1.cls) (hok : ∀ v ∈ vs, kOK v) (hlen : (kargs vs).length ≤ (kaq c).2.2.1)
    (hbody : ∀ (p : Program) (e : Env) (s : State) (mid : MethodId) (args : Array Value) (below : List Frame) (meth : Method) (cc : Code), kCx p s mid args meth cc c base ad cT D sc →
      kZ p l e (krm d mc ms) s mid args below meth cc c base ad cT D h.1 h.2.1 (MQ below (kQ base ad cT D rv h') args s mc ms (kA base)) 0 (kent vs (kaq c).2.2.1) [] h) :
    Met l (kaq c).1 (kws c) (krm d mc ms) (kPc base ad cT D sc vs h) (kQ base ad cT D rv h') mc ms (kA base) := by
  refine va_MetF (cc := (kaq c).2.1) (maxL := (kaq c).2.2.1) (ret := (kaq c).2.2.2.1) hpl rfl ?_
  intro p e s m args below meth cc s₁ B hml hv
  have hv1 := hv.1
  have hH := hv.2.1
  have hSt := hv.2.2
  subst hv1
  have hts := atoms_spec (ws := kws c) B.pre
  have hown : s.vm.findClass (kon (kaq c).2.2.2.2) = some m.cls := by rw [hon]; exact findClass_of_methodNamed B.named
  have hC : kCx p s m (vs.map (kc base ad)).toArray meth cc c base ad cT D sc := ⟨B.exec, B.bytes, hml, B.returns, B.notSynchronized, hown, fun w hw => hts w (List.mem_cons_of_mem _ hw), (name_of_methodNamed B.named B.method).1, hSt⟩
  have hl := lv_entry (vs.map (kc base ad)) (n := (kaq c).2.2.1) (by rw [kargs_len]; exact hlen)
  rw [lg_entry_eq]
  generalize (lg_sl (vs.map (kc base ad)) ++ List.replicate ((kaq c).2.2.1 - (lg_sl (vs.map (kc base ad))).length) Slot.unset).toArray = ls at hl ⊢
  have hL : kLR base ad (kent vs (kaq c).2.2.1) ls (kaq c).2.2.1 := by
    refine ⟨by unfold kent; rw [List.length_append, List.length_replicate]; omega, fun i v hi => hok v (kargs_get base ad vs 0 i v (kent_get hi)).1, hl.1, hl.2.1, fun i v hi => ?_⟩
    have h2 := (kargs_get base ad vs 0 i v (kent_get hi)).2
    rw [Nat.zero_add] at h2
    exact hl.2.2 _ h2
  have this := hbody p e s m _ below meth cc hC s.heap ls [] hH hL (fun v hv => by cases hv) va_S.rf (Nat.le_refl _) (Nat.le_refl _)
  rw [Nat.sub_self, Nat.sub_self, kofs_0] at this
  exact this
theorem kW_call {p : Program} {l : Launch} {e : Env} {R : Room} {s : State} {m : MethodId} {args : Array Value} {below : List Frame} {meth : Method} {c : Code} {H : Heap} {locs : List Loc} {cells slots mc ms pc : Nat} {Q : State → Prop} {ls : Array Slot} {rest st0 : List Value} {Qa : State → Outcome → State → Prop} {free : Addr → Prop}
    (hr : va_Run p l e R s m args below meth c H locs cells slots mc ms (F0 m pc ls st0) rest Qa free)
    (kk : ∀ (v : Option Value) (st₀ t : State) (L : List Loc), st₀.heap = H → Qa st₀ (.returned v) t → (∀ q ∈ L, free q.base) → W p l e R s m args below meth c t.heap (locs ++ L) (cells + mc) (slots + ms) Q (F0 m (pc + 3) ls (v.toList ++ rest))) : W p l e R s m args below meth c H locs cells slots Q (F0 m pc ls st0) := by
  intro T hT X
  obtain ⟨v, st₀, t, T', L, h0, X', hL, e1, e2, hq, st⟩ := hr T hT X
  obtain ⟨t2, a1, b1⟩ := kk v st₀ t L h0 hq hL T' e1 X'
  exact ⟨t2, st t2 a1, b1⟩
theorem kk_lo {z d r : Nat} (h : z ≤ 12) (h2 : 80 * (d + 9) ≤ r) : 8 + (z + 11) + 80 * (d + 8) ≤ r := by
  have e : 80 * (d + 9) = 80 * (d + 8) + 80 := Nat.mul_succ 80 (d + 8)
  rw [e] at h2
  generalize 80 * (d + 8) = x at h2 ⊢
  omega
section KS
variable {p : Program} {l : Launch} {e : Env} {R : Room} {s : State} {mid : MethodId} {args : Array Value} {below : List Frame} {meth : Method} {cc : Code} {c base : Nat} {ad : Nat → Nat} {cT : Nat → ClassId} {D : va_G} {sc : List Int} {n0 m0 : Nat} {Q : State → Prop} {pc : Nat} {L : kLs} {st : List kV} {h : kH}
/-- behind a call -/
theorem kz_back {h1 : kH} {rv : Option kV} {H : Heap} {locs : List Loc} {ls : Array Slot} {st0 : List Value} {aa : Array Value} (ho : kofs c (pc + 1) = kofs c pc + 3) (g1 : h.1 ≤ h1.1) (g2 : h.2.1 ≤ h1.2.1)
    (k : kZ p l e R s mid args below meth cc c base ad cT D n0 m0 Q (pc + 1) L (rv.toList ++ st) h1) (hL : kLR base ad L ls (kaq c).2.2.1) (hst : ∀ v ∈ st, kOK v) (hS : va_S (kA base) s.heap H locs) (hn : n0 ≤ h.1) (hm : m0 ≤ h.2.1)
    (hr : va_Run p l e R s mid args below meth cc H locs (h.1 - n0) (h.2.1 - m0) (h1.1 - h.1) (h1.2.1 - h.2.1) (F0 mid (kofs c pc) ls st0) (st.map (kc base ad)) (kQ base ad cT D rv h1 aa) (kA base)) :
    W p l e R s mid args below meth cc H locs (h.1 - n0) (h.2.1 - m0) Q (F0 mid (kofs c pc) ls st0) := by
  refine kW_call hr (fun v st₀ t Ls h0 hq hLs => ?_)
  have hv : v = rv.map (kc base ad) := Outcome.returned.inj hq.1
  subst hv
  have hF := hq.2.2.1
  rw [va_F, h0] at hF
  have hS2 : va_S (kA base) s.heap t.heap (locs ++ Ls) := ⟨Nat.le_trans hS.1 hF.1, fun q q1 q2 => (hF.2 q (Nat.lt_of_lt_of_le q1 hS.1) q2).trans (hS.2.1 q q1 q2), fun q hq => by
    rcases List.mem_append.mp hq with hq | hq
    · exact hS.2.2 q hq
    · exact hLs q hq⟩
  have this := k t.heap ls (locs ++ Ls) hq.2.1 hL (fun v hv => by
    rcases List.mem_append.mp hv with hv | hv
    · cases rv with
      | none => cases hv
      | some w =>
        have : v = w := by simpa using hv
        rw [this]
        exact hq.2.2.2 w rfl
    · exact hst v hv) hS2 (by omega) (by omega)
  rw [ho] at this
  rw [show h.1 - n0 + (h1.1 - h.1) = h1.1 - n0 by omega, show h.2.1 - m0 + (h1.2.1 - h.2.1) = h1.2.1 - m0 by omega]
  have e1 : (rv.toList ++ st).map (kc base ad) = (rv.map (kc base ad)).toList ++ st.map (kc base ad) := by cases rv <;> simp
  rw [e1] at this
  exact this
theorem kz_callS {i c' d' : Nat} {vs : List kV} {h1 : kH} {rv : Option kV} (hC : kCx p s mid args meth cc c base ad cT D sc) (hd : decode (kaq c).2.1 (kofs c pc) = .ok (.invokestatic i, 3)) (ho : kofs c (pc + 1) = kofs c pc + 3)
    (hw : Cond.methodLink (kon (kaq c).2.2.2.2) i (kaq c').1 ∈ kG) (hwc : Cond.code (kaq c').1 (kaq c').2.1 (kaq c').2.2.1 (kaq c').2.2.2.1 ∈ kG) (hwi : Cond.initialized (kaq c').1.cls ∈ kG) (hmh : (kaq c').1.cls ≠ "java/lang/invoke/MethodHandle" ∧ (kaq c').1.cls ≠ "java/lang/invoke/VarHandle") (hws : Cond.static (kaq c').1 ∈ kG) (hpa : (parseMethodDescriptor (kaq c').1.desc).map (fun d => d.parameters.length) = some vs.length) (hml : (kaq c').2.2.1 ≤ 12)
    (hM : Met l (kaq c').1 (kws c') (krm d' (h1.1 - h.1) (h1.2.1 - h.2.1)) (kPc base ad cT D sc vs h) (kQ base ad cT D rv h1) (h1.1 - h.1) (h1.2.1 - h.2.1) (kA base))
    (hf : d' + 9 ≤ R.frames) (hlo : 80 * (d' + 9) ≤ R.locals) (hc1 : h1.1 - n0 ≤ R.cells) (hs1 : h1.2.1 - m0 ≤ R.slots) (hwt : kwts st ≤ 8) (g1 : h.1 ≤ h1.1) (g2 : h.2.1 ≤ h1.2.1)
    (k : kZ p l e R s mid args below meth cc c base ad cT D n0 m0 Q (pc + 1) L (rv.toList ++ st) h1) : kZ p l e R s mid args below meth cc c base ad cT D n0 m0 Q pc L (vs.reverse ++ st) h := by
  intro H ls locs hH hL hst hS hn hm
  have hts := hC.2.2.2.2.2.2.1
  have hst2 : ∀ v ∈ st, kOK v := fun v hv => hst v (List.mem_append_right _ hv)
  refine kz_back ho g1 g2 k hL hst2 hS hn hm (aa := (vs.map (kc base ad)).toArray) ?_
  refine va_runS (Ts := kG) (ws := kws c') (rm := krm d' (h1.1 - h.1) (h1.2.1 - h.2.1)) (n := vs.length) (index := i) (own := kon (kaq c).2.2.2.2) (As := vs.map (kc base ad)) (bytes := (kaq c').2.1) (maxL := (kaq c').2.2.1) (ret := (kaq c').2.2.2.1) ⟨hC.1, hC.2.1, hC.2.2.1, hC.2.2.2.2.2.1, hts⟩ hM ⟨callB_of vs.length hts (kws_good hwc) rfl rfl rfl (hts _ hwi) (hts _ hw) ⟨hmh.1, hmh.2, hpa⟩ ⟨?_, ?_⟩, hts _ hws⟩ ⟨kPc.blind, fun U hU hW => ⟨rfl, by rw [hU]; exact hH, hC.2.2.2.2.2.2.2.2.to hW (by rw [hU]; exact hS.1) (fun q q1 q2 => by rw [hU]; exact hS.2.1 q q1 q2)⟩⟩ rfl (by simp) hL.2.2.1 ?_ (lv_room ?_) hd ⟨by omega, by omega⟩
  · show d' + 8 + 1 ≤ R.frames
    omega
  · show 8 + ((kaq c').2.2.1 + 11) + 80 * (d' + 8) ≤ R.locals
    exact kk_lo hml hlo
  · show (vs.reverse ++ st).map (kc base ad) = (vs.map (kc base ad)).reverse ++ st.map (kc base ad)
    rw [List.map_append, List.map_reverse]
  · rw [kn_wts]; exact hwt
theorem kz_callV {i c' d' b ci : Nat} {vs fs : List kV} {h1 : kH} {rv : Option kV} (hC : kCx p s mid args meth cc c base ad cT D sc) (hd : decode (kaq c).2.1 (kofs c pc) = .ok (.invokevirtual i, 3)) (ho : kofs c (pc + 1) = kofs c pc + 3)
    (hw : Cond.methodLink (kon (kaq c).2.2.2.2) i (kaq c').1 ∈ kG) (hwc : Cond.code (kaq c').1 (kaq c').2.1 (kaq c').2.2.1 (kaq c').2.2.2.1 ∈ kG) (hwi : Cond.initialized (kaq c').1.cls ∈ kG) (hmh : (kaq c').1.cls ≠ "java/lang/invoke/MethodHandle" ∧ (kaq c').1.cls ≠ "java/lang/invoke/VarHandle") (hwm : Cond.instanceMethod (kaq c').1 ∈ kG) (hwse : Cond.selects (kaq c').1.cls (kaq c').1 (kaq c').1 ∈ kG) (hpa : (parseMethodDescriptor (kaq c').1.desc).map (fun d => d.parameters.length) = some vs.length) (hml : (kaq c').2.2.1 ≤ 12)
    (hci : ci < 12) (hcc : (kcq ci).1 = (kaq c').1.cls) (hb : h.2.2 b = some (.inr (.inr (ci, fs))))
    (hM : Met l (kaq c').1 (kws c') (krm d' (h1.1 - h.1) (h1.2.1 - h.2.1)) (kPc base ad cT D sc (.inr (.inr (.inl (some b))) :: vs) h) (kQ base ad cT D rv h1) (h1.1 - h.1) (h1.2.1 - h.2.1) (kA base))
    (hf : d' + 9 ≤ R.frames) (hlo : 80 * (d' + 9) ≤ R.locals) (hc1 : h1.1 - n0 ≤ R.cells) (hs1 : h1.2.1 - m0 ≤ R.slots) (hwt : kwts st ≤ 8) (g1 : h.1 ≤ h1.1) (g2 : h.2.1 ≤ h1.2.1)
    (k : kZ p l e R s mid args below meth cc c base ad cT D n0 m0 Q (pc + 1) L (rv.toList ++ st) h1) : kZ p l e R s mid args below meth cc c base ad cT D n0 m0 Q pc L (vs.reverse ++ .inr (.inr (.inl (some b))) :: st) h := by
  intro H ls locs hH hL hst hS hn hm
  have hts := hC.2.2.2.2.2.2.1
  have hst2 : ∀ v ∈ st, kOK v := fun v hv => hst v (List.mem_append_right _ (List.mem_cons_of_mem _ hv))
  have hrec := va_recv hC.2.2.2.2.2.2.2.2.1 (kP1 hH hb) (kCa_ok ci hci).1 (q0 := 0) rfl
  rw [hcc] at hrec
  refine kz_back ho g1 g2 k hL hst2 hS hn hm (aa := (Value.ref (base + b) :: vs.map (kc base ad)).toArray) ?_
  refine va_runV (Ts := kG) (ws := kws c') (rm := krm d' (h1.1 - h.1) (h1.2.1 - h.2.1)) (n := vs.length) (index := i) (own := kon (kaq c).2.2.2.2) (C := (kaq c').1.cls) (As := vs.map (kc base ad)) (bytes := (kaq c').2.1) (maxL := (kaq c').2.2.1) (ret := (kaq c').2.2.2.1) ⟨hC.1, hC.2.1, hC.2.2.1, hC.2.2.2.2.2.1, hts⟩ hM ⟨callB_of vs.length hts (kws_good hwc) rfl rfl rfl (hts _ hwi) (hts _ hw) ⟨hmh.1, hmh.2, hpa⟩ ⟨?_, ?_⟩, hts _ hwm, hts _ hwse⟩ ⟨kPc.blind, hrec, fun U hU hW => ⟨rfl, by rw [hU]; exact hH, hC.2.2.2.2.2.2.2.2.to hW (by rw [hU]; exact hS.1) (fun q q1 q2 => by rw [hU]; exact hS.2.1 q q1 q2)⟩⟩ rfl (by simp) hL.2.2.1 ?_ (lv_room ?_) hd ⟨by omega, by omega⟩
  · show d' + 8 + 1 ≤ R.frames
    omega
  · show 8 + ((kaq c').2.2.1 + 11) + 80 * (d' + 8) ≤ R.locals
    exact kk_lo hml hlo
  · show (vs.reverse ++ .inr (.inr (.inl (some b))) :: st).map (kc base ad) = (vs.map (kc base ad)).reverse ++ Value.ref (base + b) :: st.map (kc base ad)
    rw [List.map_append, List.map_reverse]
    rfl
  · rw [kn_wts]; exact hwt
theorem kz_callI {i c' d' b : Nat} {vs : List kV} {h1 : kH} {rv : Option kV} (hC : kCx p s mid args meth cc c base ad cT D sc) (hd : decode (kaq c).2.1 (kofs c pc) = .ok (.invokespecial i, 3)) (ho : kofs c (pc + 1) = kofs c pc + 3)
    (hw : Cond.methodLink (kon (kaq c).2.2.2.2) i (kaq c').1 ∈ kG ∨ ((kaq c).2.2.2.2, i, c') ∈ kMN ∧ kyn c' = (kaq c').1) (hwc : Cond.code (kaq c').1 (kaq c').2.1 (kaq c').2.2.1 (kaq c').2.2.2.1 ∈ kG) (hwi : Cond.initialized (kaq c').1.cls ∈ kG) (hmh : (kaq c').1.cls ≠ "java/lang/invoke/MethodHandle" ∧ (kaq c').1.cls ≠ "java/lang/invoke/VarHandle") (hwm : Cond.instanceMethod (kaq c').1 ∈ kG) (hin : (kaq c').1.name = "<init>") (hrt : (kaq c').2.2.2.1 = none) (hpa : (parseMethodDescriptor (kaq c').1.desc).map (fun d => d.parameters.length) = some vs.length) (hml : (kaq c').2.2.1 ≤ 12)
    (hM : Met l (kaq c').1 (kws c') (krm d' (h1.1 - h.1) (h1.2.1 - h.2.1)) (kPc base ad cT D sc (.inr (.inr (.inl (some b))) :: vs) h) (kQ base ad cT D rv h1) (h1.1 - h.1) (h1.2.1 - h.2.1) (kA base))
    (hf : d' + 9 ≤ R.frames) (hlo : 80 * (d' + 9) ≤ R.locals) (hc1 : h1.1 - n0 ≤ R.cells) (hs1 : h1.2.1 - m0 ≤ R.slots) (hwt : kwts st ≤ 8) (g1 : h.1 ≤ h1.1) (g2 : h.2.1 ≤ h1.2.1)
    (k : kZ p l e R s mid args below meth cc c base ad cT D n0 m0 Q (pc + 1) L (rv.toList ++ st) h1) : kZ p l e R s mid args below meth cc c base ad cT D n0 m0 Q pc L (vs.reverse ++ .inr (.inr (.inl (some b))) :: st) h := by
  intro H ls locs hH hL hst hS hn hm
  have hts := hC.2.2.2.2.2.2.1
  have hst2 : ∀ v ∈ st, kOK v := fun v hv => hst v (List.mem_append_right _ (List.mem_cons_of_mem _ hv))
  have hws : kws c' = Cond.code (kaq c').1 (kaq c').2.1 (kaq c').2.2.1 none :: kG := by unfold kws; rw [hrt]
  have hR1 : (krm d' (h1.1 - h.1) (h1.2.1 - h.2.1)).frames + 1 ≤ R.frames := by show d' + 8 + 1 ≤ R.frames; omega
  have hR2 : 8 + ((kaq c').2.2.1 + 11) + (krm d' (h1.1 - h.1) (h1.2.1 - h.2.1)).locals ≤ R.locals := by show 8 + ((kaq c').2.2.1 + 11) + 80 * (d' + 8) ≤ R.locals; exact kk_lo hml hlo
  have hstk : (vs.reverse ++ .inr (.inr (.inl (some b))) :: st).map (kc base ad) = (vs.map (kc base ad)).reverse ++ Value.ref (base + b) :: st.map (kc base ad) := by
    rw [List.map_append, List.map_reverse]
    rfl
  have hps : PreS s H (kPc base ad cT D sc (.inr (.inr (.inl (some b))) :: vs) h) (Value.ref (base + b) :: vs.map (kc base ad)) := ⟨kPc.blind, fun U hU hW => ⟨rfl, by rw [hU]; exact hH, hC.2.2.2.2.2.2.2.2.to hW (by rw [hU]; exact hS.1) (fun q q1 q2 => by rw [hU]; exact hS.2.1 q q1 q2)⟩⟩
  refine kz_back ho g1 g2 k hL hst2 hS hn hm (aa := (Value.ref (base + b) :: vs.map (kc base ad)).toArray) ?_
  rcases hw with hw | ⟨hw, hy⟩
  · exact va_runI (Ts := kG) (ws := kws c') (rm := krm d' (h1.1 - h.1) (h1.2.1 - h.2.1)) (n := vs.length) (index := i) (own := kon (kaq c).2.2.2.2) (As := vs.map (kc base ad)) (bytes := (kaq c').2.1) (maxL := (kaq c').2.2.1) ⟨hC.1, hC.2.1, hC.2.2.1, hC.2.2.2.2.2.1, hts⟩ hM ⟨callB_of vs.length hts (kws_good hwc) hws rfl rfl (hts _ hwi) (hts _ hw) ⟨hmh.1, hmh.2, hpa⟩ ⟨hR1, hR2⟩, hin, hts _ hwm⟩ hps rfl (by simp) hL.2.2.1 hstk (lv_room (by rw [kn_wts]; exact hwt)) hd ⟨by omega, by omega⟩
  · have hz := hC.2.2.2.2.2.2.2.2.2.1 ((kaq c).2.2.2.2, i, c') hw
    have hz2 : va_Nw (.methodLinkNest (kon (kaq c).2.2.2.2) i (kaq c').1 "KnotTown") s := by rw [← hy]; exact hz
    exact va_runIN (Ts := kG) (ws := kws c') (rm := krm d' (h1.1 - h.1) (h1.2.1 - h.2.1)) (n := vs.length) (index := i) (own := kon (kaq c).2.2.2.2) (As := vs.map (kc base ad)) (bytes := (kaq c').2.1) (maxL := (kaq c').2.2.1) ⟨hC.1, hC.2.1, hC.2.2.1, hC.2.2.2.2.2.1, hts⟩ hM ⟨va_cnB vs.length hts (kws_good hwc) hws rfl rfl hz2 (hts _ hwi) ⟨hmh.1, hmh.2, hpa⟩ ⟨hR1, hR2⟩, hin, hts _ hwm⟩ hps rfl (by simp) hL.2.2.1 hstk (lv_room (by rw [kn_wts]; exact hwt)) hd ⟨by omega, by omega⟩
end KS
