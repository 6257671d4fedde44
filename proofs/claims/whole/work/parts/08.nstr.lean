/-! THE TWO CALLS ON TEXT CONSTANTS: the JDK's own code for length and charAt -/
def kJK (base a av n : Nat) (f : Nat → Value) (U : State) : Prop := va_O "java/lang/String" a (kA base) U U.heap ∧ va_OF "java/lang/String" "coder" "B" (.int 0) a (kA base) U U.heap ∧ va_OF "java/lang/String" "value" "[B" (.ref av) a (kA base) U U.heap ∧ va_T .byte av n f (kA base) U U.heap ∧ va_Z "java/lang/String" "COMPACT_STRINGS" "Z" (.int 1) (kA base) U U.heap ∧ va_Zq "jdk/internal/util/Preconditions" "SIOOBE_FORMATTER" "Ljava/util/function/BiFunction;" (kA base) U U.heap
theorem kJK.to {base a av n : Nat} {f : Nat → Value} {s U : State} (h : kJK base a av n f s) (hW : s.WarmedH U.vm) (hq : ∀ a : Nat, a < s.heap.size → ¬ kA base a → U.heap[a]? = s.heap[a]?) : kJK base a av n f U := by
  obtain ⟨h1, h2, h3, h4, h5, h6⟩ := h
  exact ⟨(h1.moved hW.alike).kept hq, (h2.moved hW.alike).kept hq, (h3.moved hW.alike).kept hq, (h4.moved hW.alike).kept hq, (h5.moved hW.alike).kept hq, (h6.moved hW.alike).kept hq⟩
def kJP (base a av n : Nat) (f : Nat → Value) (vs : List Value) : Array Value → State → Prop := fun v U => v = vs.toArray ∧ kJK base a av n f U
theorem kJP.blind {base a av n : Nat} {f : Nat → Value} {vs : List Value} : FrameBlind (kJP base a av n f vs) := by
  intro x U g mk q
  exact ⟨q.1, q.2.to (U := U.calling g mk x) (State.WarmedH.refl U) (fun _ _ _ => rfl)⟩
def kJQ (rv : Option Value) : Array Value → State → Outcome → State → Prop := fun _ st oc t => oc = .returned rv ∧ t.heap = st.heap
def kJr (k : Nat) : Room := { frames := k, cells := 0, slots := 0, locals := 40 * k }
def kJx (p : Program) (s : State) (mid : MethodId) (args : Array Value) (meth : Method) (cc : Code) (own : String) (bytes : ByteArray) (ml : Nat) (ret : Option FieldType) : Prop :=
  p.tables.exec = Jvm.exec ∧ cc.code = bytes ∧ cc.maxLocals = ml ∧ meth.sig.returnType = ret ∧ meth.locks = false ∧ s.vm.findClass own = some mid.cls ∧ ∀ w ∈ kG, w.before args s = true
theorem kJMet {l : Launch} {y : MethodName} {bytes : ByteArray} {ml k base a av n : Nat} {ret : Option FieldType} {f : Nat → Value} {vs : List Value} {rv : Option Value} (hpl : plainFor y = true) (hlen : (lg_sl vs).length ≤ ml)
    (hbody : ∀ (p : Program) (e : Env) (s : State) (mid : MethodId) (below : List Frame) (meth : Method) (cc : Code) (ls : Array Slot), kJx p s mid vs.toArray meth cc y.cls bytes ml ret → kJK base a av n f s → ls.size = ml → (∀ q ∈ lv_args 0 vs, ls[q.1]? = some (.val q.2)) →
      W p l e (kJr k) s mid vs.toArray below meth cc s.heap [] 0 0 (MQ below (kJQ rv) vs.toArray s 0 0 (fun _ => False)) (F0 mid 0 ls [])) :
    Met l y (Cond.code y bytes ml ret :: kG) (kJr k) (kJP base a av n f vs) (kJQ rv) 0 0 (fun _ => False) := by
  refine va_MetF (cc := bytes) (maxL := ml) (ret := ret) hpl rfl ?_
  intro p e s m args below meth cc s₁ B hml hv
  have hv1 := hv.1
  subst hv1
  have hts := atoms_spec (ws := Cond.code y bytes ml ret :: kG) B.pre
  have hl := lv_entry vs hlen
  rw [lg_entry_eq]
  generalize (lg_sl vs ++ List.replicate (ml - (lg_sl vs).length) Slot.unset).toArray = ls at hl ⊢
  exact hbody p e s m below meth cc ls ⟨B.exec, B.bytes, hml, B.returns, B.notSynchronized, findClass_of_methodNamed B.named, fun w hw => hts w (List.mem_cons_of_mem _ hw)⟩ hv.2 hl.1 hl.2.2
section KJ
variable {p : Program} {l : Launch} {e : Env} {R : Room} {s : State} {mid : MethodId} {args : Array Value} {below : List Frame} {meth : Method} {cc : Code} {H : Heap} {locs : List Loc} {cells slots pc : Nat} {Q : State → Prop} {ls : Array Slot} {rest : List Value}
theorem kJback {mc : Nat} {rv : Option Value} {aa : Array Value} {st0 : List Value} (hr : va_Run p l e R s mid args below meth cc H locs cells slots 0 0 (F0 mid pc ls st0) rest (kJQ rv aa) (fun _ => False))
    (k : W p l e R s mid args below meth cc H locs cells slots Q (F0 mid (pc + 3) ls (rv.toList ++ rest))) : W p l e R s mid args below meth cc H locs cells slots Q (F0 mid pc ls st0) := by
  refine kW_call hr (fun v st₀ t L h0 hq hL => ?_)
  have hv : v = rv := Outcome.returned.inj hq.1
  subst hv
  have hL0 : L = [] := by
    cases L with
    | nil => rfl
    | cons x L => exact (hL x List.mem_cons_self).elim
  subst hL0
  rw [hq.2, h0, List.append_nil]
  exact k
theorem kJcallS {own : String} {b0 : ByteArray} {ml0 : Nat} {ret0 : Option FieldType} {i k base a av n : Nat} {f : Nat → Value} {y : MethodName} {bytes : ByteArray} {ml : Nat} {ret : Option FieldType} {vs : List Value} {rv : Option Value}
    (hX : kJx p s mid args meth cc own b0 ml0 ret0) (hK : kJK base a av n f s) (hS : va_S (kA base) s.heap H locs) (hls : ls.size = ml0) (hd : decode b0 pc = .ok (.invokestatic i, 3))
    (hw : Cond.methodLink own i y ∈ kG) (hwc : Cond.code y bytes ml ret ∈ kG) (hwi : Cond.initialized y.cls ∈ kG) (hmh : y.cls ≠ "java/lang/invoke/MethodHandle" ∧ y.cls ≠ "java/lang/invoke/VarHandle") (hws : Cond.static y ∈ kG) (hpa : (parseMethodDescriptor y.desc).map (fun d => d.parameters.length) = some vs.length)
    (hM : Met l y (Cond.code y bytes ml ret :: kG) (kJr k) (kJP base a av n f vs) (kJQ rv) 0 0 (fun _ => False)) (hf : k + 1 ≤ R.frames) (hlo : 8 + (ml + 11) + 40 * k ≤ R.locals) (hc1 : cells ≤ R.cells) (hs1 : slots ≤ R.slots) (hwt : (rest.map fun v => v.category).sum ≤ 8)
    (kk : W p l e R s mid args below meth cc H locs cells slots Q (F0 mid (pc + 3) ls (rv.toList ++ rest))) : W p l e R s mid args below meth cc H locs cells slots Q (F0 mid pc ls (vs.reverse ++ rest)) := by
  obtain ⟨x1, x2, x3, x4, x5, x6, x7⟩ := hX
  refine kJback (aa := vs.toArray) (mc := 0) ?_ kk
  exact va_runS (Ts := kG) (ws := Cond.code y bytes ml ret :: kG) (rm := kJr k) (n := vs.length) (index := i) (own := own) (As := vs) (bytes := bytes) (maxL := ml) (ret := ret) ⟨x1, x2, x3, x6, x7⟩ hM ⟨callB_of vs.length x7 (fun w hw => by
    rcases List.mem_cons.mp hw with rfl | hw
    · exact kG_good _ hwc
    · exact kG_good _ hw) rfl rfl rfl (x7 _ hwi) (x7 _ hw) ⟨hmh.1, hmh.2, hpa⟩ ⟨hf, hlo⟩, x7 _ hws⟩ ⟨kJP.blind, fun U hU hW => ⟨rfl, hK.to hW (fun q q1 q2 => by rw [hU]; exact hS.2.1 q q1 q2)⟩⟩ rfl rfl hls rfl (lv_room hwt) hd ⟨hc1, hs1⟩
theorem kJcallV {own : String} {b0 : ByteArray} {ml0 : Nat} {ret0 : Option FieldType} {i k base a av n : Nat} {f : Nat → Value} {y : MethodName} {bytes : ByteArray} {ml : Nat} {ret : Option FieldType} {vs : List Value} {rv : Option Value}
    (hX : kJx p s mid args meth cc own b0 ml0 ret0) (hK : kJK base a av n f s) (hS : va_S (kA base) s.heap H locs) (hls : ls.size = ml0) (hd : decode b0 pc = .ok (.invokevirtual i, 3)) (hy : y.cls = "java/lang/String")
    (hw : Cond.methodLink own i y ∈ kG) (hwc : Cond.code y bytes ml ret ∈ kG) (hwi : Cond.initialized y.cls ∈ kG) (hwm : Cond.instanceMethod y ∈ kG) (hwse : Cond.selects "java/lang/String" y y ∈ kG) (hpa : (parseMethodDescriptor y.desc).map (fun d => d.parameters.length) = some vs.length)
    (hM : Met l y (Cond.code y bytes ml ret :: kG) (kJr k) (kJP base a av n f (.ref a :: vs)) (kJQ rv) 0 0 (fun _ => False)) (hf : k + 1 ≤ R.frames) (hlo : 8 + (ml + 11) + 40 * k ≤ R.locals) (hc1 : cells ≤ R.cells) (hs1 : slots ≤ R.slots) (hwt : (rest.map fun v => v.category).sum ≤ 8)
    (kk : W p l e R s mid args below meth cc H locs cells slots Q (F0 mid (pc + 3) ls (rv.toList ++ rest))) : W p l e R s mid args below meth cc H locs cells slots Q (F0 mid pc ls (vs.reverse ++ .ref a :: rest)) := by
  obtain ⟨x1, x2, x3, x4, x5, x6, x7⟩ := hX
  have hrec : ∃ cell : Cell, H[a]? = some cell ∧ cell.vm.isStatics = false ∧ s.vm.findClass "java/lang/String" = some cell.cls := by
    obtain ⟨cell, h1, h2, h3, -⟩ := hK.1.kept hS.2.1
    exact ⟨cell, h1, h2, h3⟩
  refine kJback (aa := (Value.ref a :: vs).toArray) (mc := 0) ?_ kk
  exact va_runV (Ts := kG) (ws := Cond.code y bytes ml ret :: kG) (rm := kJr k) (n := vs.length) (index := i) (own := own) (C := "java/lang/String") (As := vs) (bytes := bytes) (maxL := ml) (ret := ret) ⟨x1, x2, x3, x6, x7⟩ hM ⟨callB_of vs.length x7 (fun w hw => by
    rcases List.mem_cons.mp hw with rfl | hw
    · exact kG_good _ hwc
    · exact kG_good _ hw) rfl rfl rfl (x7 _ hwi) (x7 _ hw) ⟨by rw [hy]; decide, by rw [hy]; decide, hpa⟩ ⟨hf, hlo⟩, x7 _ hwm, x7 _ hwse⟩ ⟨kJP.blind, hrec, fun U hU hW => ⟨rfl, hK.to hW (fun q q1 q2 => by rw [hU]; exact hS.2.1 q q1 q2)⟩⟩ rfl rfl hls rfl (lv_room hwt) hd ⟨hc1, hs1⟩
end KJ
section KJM
variable {l : Launch} {base a av n : Nat} {f : Nat → Value}
def kJ_coder : MethodName := ⟨"java/lang/String", "coder", "()B"⟩
def kJ_lat : MethodName := ⟨"java/lang/String", "isLatin1", "()Z"⟩
def kJ_len : MethodName := ⟨"java/lang/String", "length", "()I"⟩
def kJ_chr : MethodName := ⟨"java/lang/String", "charAt", "(I)C"⟩
def kJ_chL : MethodName := ⟨"java/lang/StringLatin1", "charAt", "([BI)C"⟩
def kJ_chk : MethodName := ⟨"java/lang/String", "checkIndex", "(II)V"⟩
def kJ_pre : MethodName := ⟨"jdk/internal/util/Preconditions", "checkIndex", "(IILjava/util/function/BiFunction;)I"⟩
theorem kJm_coder : Met l kJ_coder (Cond.code kJ_coder prog_19_method_152_code 1 (some .byte) :: kG) (kJr 0) (kJP base a av n f [.ref a]) (kJQ (some (.int 0))) 0 0 (fun _ => False) := by
  refine kJMet (by decide) (by simp [lg_sl, Value.category]) ?_
  intro p e s mid below meth cc ls ⟨x1, x2, x3, x4, x5, x6, x7⟩ hK hls hl
  have l0 : ls[0]? = some (.val (.ref a)) := hl (0, .ref a) (by simp [lv_args])
  refine va_gets (cc := prog_19_method_152_code) (index := 38) x1 x2 hK.2.2.2.2.1 va_S.rf x6 (x7 _ (kiG2 (i := 194) rfl rfl)) (fun _ h => h) (by decide +kernel) ?_
  refine lv_if_eq x1 x2 (off := 10) (tgt := 13) (by decide +kernel) (by decide) (fun q => absurd q (by decide)) (fun _ => ?_)
  refine lv_aload_n x1 x2 (k := 0) (i := 0) (by decide +kernel) rfl l0 ?_
  refine vk_getf (index := 15) x1 x2 hK.2.1 va_S.rf x6 (x7 _ (kiG8 (i := 169) rfl rfl)) (fun _ h => h) (by decide +kernel) ?_
  refine lv_goto x1 x2 (off := 4) (tgt := 14) (by decide +kernel) (by decide) ?_
  exact W.zret x1 x2 x4 rfl (fun t ht _ => ⟨rfl, ht⟩) (fun q hq => by cases hq) (by decide +kernel) x5
theorem kJm_lat : Met l kJ_lat (Cond.code kJ_lat prog_19_method_154_code 1 (some .boolean) :: kG) (kJr 0) (kJP base a av n f [.ref a]) (kJQ (some (.int 1))) 0 0 (fun _ => False) := by
  refine kJMet (by decide) (by simp [lg_sl, Value.category]) ?_
  intro p e s mid below meth cc ls ⟨x1, x2, x3, x4, x5, x6, x7⟩ hK hls hl
  have l0 : ls[0]? = some (.val (.ref a)) := hl (0, .ref a) (by simp [lv_args])
  refine va_gets (cc := prog_19_method_154_code) (index := 38) x1 x2 hK.2.2.2.2.1 va_S.rf x6 (x7 _ (kiG2 (i := 194) rfl rfl)) (fun _ h => h) (by decide +kernel) ?_
  refine lv_if_eq x1 x2 (off := 14) (tgt := 17) (by decide +kernel) (by decide) (fun q => absurd q (by decide)) (fun _ => ?_)
  refine lv_aload_n x1 x2 (k := 0) (i := 0) (by decide +kernel) rfl l0 ?_
  refine vk_getf (index := 15) x1 x2 hK.2.1 va_S.rf x6 (x7 _ (kiG8 (i := 169) rfl rfl)) (fun _ h => h) (by decide +kernel) ?_
  refine lv_if_ne x1 x2 (off := 7) (tgt := 17) (by decide +kernel) (by decide) (fun q => absurd rfl q) (fun _ => ?_)
  refine lv_iconst x1 x2 (n := 1) (v := 1) (by decide +kernel) rfl ?_
  refine lv_goto x1 x2 (off := 4) (tgt := 18) (by decide +kernel) (by decide) ?_
  exact W.zret x1 x2 x4 rfl (fun t ht _ => ⟨rfl, ht⟩) (fun q hq => by cases hq) (by decide +kernel) x5
theorem kJ_shr (x : Int32) : x >>> ((0 : Int32) &&& 31) = x := by
  have : ((0 : Int32) &&& 31) = 0 := rfl
  rw [this]
  exact Int32.shiftRight_zero
theorem kJm_len : Met l kJ_len (Cond.code kJ_len prog_19_method_54_code 1 (some .int) :: kG) (kJr 1) (kJP base a av n f [.ref a]) (kJQ (some (.int (Int32.ofNat n)))) 0 0 (fun _ => False) := by
  refine kJMet (by decide) (by simp [lg_sl, Value.category]) ?_
  intro p e s mid below meth cc ls hX hK hls hl
  obtain ⟨x1, x2, x3, x4, x5, x6, x7⟩ := id hX
  have l0 : ls[0]? = some (.val (.ref a)) := hl (0, .ref a) (by simp [lv_args])
  refine lv_aload_n x1 x2 (k := 0) (i := 0) (by decide +kernel) rfl l0 ?_
  refine vk_getf (index := 9) x1 x2 hK.2.2.1 va_S.rf x6 (x7 _ (kiG8 (i := 168) rfl rfl)) (fun _ h => h) (by decide +kernel) ?_
  refine va_tlen x1 x2 hK.2.2.2.1 va_S.rf rfl (by decide +kernel) ?_
  refine lv_aload_n x1 x2 (k := 0) (i := 0) (by decide +kernel) rfl l0 ?_
  refine kJcallV (i := 335) (k := 0) (vs := []) (y := kJ_coder) (rv := some (.int 0)) hX hK va_S.rf hls (by decide +kernel) rfl (kiG2 (i := 190) rfl rfl) (kiG2 (i := 193) rfl rfl) (kiG1 (i := 14) rfl rfl) (kiG2 (i := 191) rfl rfl) (kiG2 (i := 192) rfl rfl) (by decide) kJm_coder (Nat.le_refl _) (by decide) (Nat.le_refl _) (Nat.le_refl _) (show 1 + 0 ≤ 8 by decide) ?_
  refine lv_ishr x1 x2 (by decide +kernel) ?_
  rw [kJ_shr]
  exact W.iret x1 x2 x4 (fun t ht _ => ⟨rfl, ht⟩) (fun q hq => by cases hq) (by decide +kernel) x5
theorem kJm_pre {i m : Int32} {fv : Value} (hi : ¬ i < 0) (hm : i < m) (hfv : fv = .null ∨ ∃ t : Nat, fv = .ref t) : Met l kJ_pre (Cond.code kJ_pre prog_24_method_11_code 3 (some .int) :: kG) (kJr 0) (kJP base a av n f [.int i, .int m, fv]) (kJQ (some (.int i))) 0 0 (fun _ => False) := by
  have hcat : fv.category = 1 := by rcases hfv with rfl | ⟨t, rfl⟩ <;> rfl
  refine kJMet (by decide) (by rcases hfv with rfl | ⟨t, rfl⟩ <;> simp [lg_sl, Value.category]) ?_
  intro p e s mid below meth cc ls ⟨x1, x2, x3, x4, x5, x6, x7⟩ hK hls hl
  have l0 : ls[0]? = some (.val (.int i)) := hl (0, .int i) (by simp [lv_args])
  have l1 : ls[1]? = some (.val (.int m)) := hl (1, .int m) (by simp [lv_args, Value.category])
  refine lv_iload_n (cc := prog_24_method_11_code) x1 x2 (k := 0) (i := 0) (by decide +kernel) rfl l0 ?_
  refine lv_if_lt x1 x2 (off := 8) (tgt := 9) (by decide +kernel) (by decide) (fun q => absurd q hi) (fun _ => ?_)
  refine lv_iload_n x1 x2 (k := 0) (i := 0) (by decide +kernel) rfl l0 ?_
  refine lv_iload_n x1 x2 (k := 1) (i := 1) (by decide +kernel) rfl l1 ?_
  refine lv_icmp_lt x1 x2 (off := 10) (tgt := 16) (by decide +kernel) (by decide) (fun _ => ?_) (fun q => absurd hm q)
  refine lv_iload_n x1 x2 (k := 0) (i := 0) (by decide +kernel) rfl l0 ?_
  exact W.iret x1 x2 x4 (fun t ht _ => ⟨rfl, ht⟩) (fun q hq => by cases hq) (by decide +kernel) x5
theorem kJm_chk {i m : Int32} (hi : ¬ i < 0) (hm : i < m) : Met l kJ_chk (Cond.code kJ_chk prog_19_method_155_code 2 none :: kG) (kJr 1) (kJP base a av n f [.int i, .int m]) (kJQ none) 0 0 (fun _ => False) := by
  refine kJMet (by decide) (by simp [lg_sl, Value.category]) ?_
  intro p e s mid below meth cc ls hX hK hls hl
  obtain ⟨x1, x2, x3, x4, x5, x6, x7⟩ := id hX
  have l0 : ls[0]? = some (.val (.int i)) := hl (0, .int i) (by simp [lv_args])
  have l1 : ls[1]? = some (.val (.int m)) := hl (1, .int m) (by simp [lv_args, Value.category])
  have key : ∀ fv : Value, (fv = .null ∨ ∃ t : Nat, fv = .ref t) → va_Z "jdk/internal/util/Preconditions" "SIOOBE_FORMATTER" "Ljava/util/function/BiFunction;" fv (kA base) s s.heap → W p l e (kJr 1) s mid [Value.int i, Value.int m].toArray below meth cc s.heap [] 0 0 (MQ below (kJQ none) [Value.int i, Value.int m].toArray s 0 0 (fun _ => False)) (F0 mid 0 ls []) := by
    intro fv hfv hz
    refine lv_iload_n x1 x2 (k := 0) (i := 0) (by decide +kernel) rfl l0 ?_
    refine lv_iload_n x1 x2 (k := 1) (i := 1) (by decide +kernel) rfl l1 ?_
    refine va_gets (index := 1053) x1 x2 hz va_S.rf x6 (x7 _ (kiG2 (i := 210) rfl rfl)) (fun _ h => h) (by decide +kernel) ?_
    refine kJcallS (i := 1059) (k := 0) (vs := [.int i, .int m, fv]) (y := kJ_pre) (rv := some (.int i)) (rest := []) hX hK va_S.rf hls (by decide +kernel) (kiG2 (i := 212) rfl rfl) (kiG2 (i := 214) rfl rfl) (kiG1 (i := 16) rfl rfl) ⟨by decide, by decide⟩ (kiG2 (i := 213) rfl rfl) (by show _ = some 3; decide) (kJm_pre hi hm hfv) (Nat.le_refl _) (by decide) (Nat.le_refl _) (Nat.le_refl _) (by decide) ?_
    refine lv_pop x1 x2 (by decide +kernel) rfl ?_
    exact W.vret x1 x2 x4 (fun t ht _ => ⟨rfl, ht⟩) (fun q hq => by cases hq) (by decide +kernel) x5
  rcases hK.2.2.2.2.2 with hz | ⟨t, hz⟩
  · exact key _ (Or.inl rfl) hz
  · exact key _ (Or.inr ⟨t, rfl⟩) hz
theorem kJm_chL {i v : Int32} (hi : ¬ i < 0) (hm : i < Int32.ofNat n) (hin : vp_in i n) (hv : f i.toNatClampNeg = .int v) (hv2 : ((v &&& 255).toUInt32 % 65536).toInt32 = v) (hv3 : narrow .char (.int v) = .int v) : Met l kJ_chL (Cond.code kJ_chL prog_20_method_2_code 2 (some .char) :: kG) (kJr 2) (kJP base a av n f [.ref av, .int i]) (kJQ (some (.int v))) 0 0 (fun _ => False) := by
  refine kJMet (by decide) (by simp [lg_sl, Value.category]) ?_
  intro p e s mid below meth cc ls hX hK hls hl
  obtain ⟨x1, x2, x3, x4, x5, x6, x7⟩ := id hX
  have l0 : ls[0]? = some (.val (.ref av)) := hl (0, .ref av) (by simp [lv_args])
  have l1 : ls[1]? = some (.val (.int i)) := hl (1, .int i) (by simp [lv_args, Value.category])
  refine lv_iload_n x1 x2 (k := 1) (i := 1) (by decide +kernel) rfl l1 ?_
  refine lv_aload_n x1 x2 (k := 0) (i := 0) (by decide +kernel) rfl l0 ?_
  refine va_tlen x1 x2 hK.2.2.2.1 va_S.rf rfl (by decide +kernel) ?_
  refine kJcallS (i := 9) (k := 1) (vs := [.int i, .int (Int32.ofNat n)]) (y := kJ_chk) (rv := none) (rest := []) hX hK va_S.rf hls (by decide +kernel) (kiG2 (i := 207) rfl rfl) (kiG2 (i := 209) rfl rfl) (kiG1 (i := 14) rfl rfl) ⟨by decide, by decide⟩ (kiG2 (i := 208) rfl rfl) (by show _ = some 2; decide) (kJm_chk hi hm) (Nat.le_refl _) (by decide) (Nat.le_refl _) (Nat.le_refl _) (by decide) ?_
  refine lv_aload_n x1 x2 (k := 0) (i := 0) (by decide +kernel) rfl l0 ?_
  refine lv_iload_n x1 x2 (k := 1) (i := 1) (by decide +kernel) rfl l1 ?_
  refine va_tb x1 x2 hK.2.2.2.1 va_S.rf hin hv (by decide +kernel) ?_
  refine lv_sipush x1 x2 (n := 255) (v := 255) (by decide +kernel) rfl ?_
  refine lv_iand x1 x2 (by decide +kernel) ?_
  refine lv_i2c x1 x2 (by decide +kernel) hv2 ?_
  exact W.zret x1 x2 x4 hv3 (fun t ht _ => ⟨rfl, ht⟩) (fun q hq => by cases hq) (by decide +kernel) x5
theorem kJm_chr {i v : Int32} (hi : ¬ i < 0) (hm : i < Int32.ofNat n) (hin : vp_in i n) (hv : f i.toNatClampNeg = .int v) (hv2 : ((v &&& 255).toUInt32 % 65536).toInt32 = v) (hv3 : narrow .char (.int v) = .int v) : Met l kJ_chr (Cond.code kJ_chr prog_19_method_56_code 2 (some .char) :: kG) (kJr 3) (kJP base a av n f [.ref a, .int i]) (kJQ (some (.int v))) 0 0 (fun _ => False) := by
  refine kJMet (by decide) (by simp [lg_sl, Value.category]) ?_
  intro p e s mid below meth cc ls hX hK hls hl
  obtain ⟨x1, x2, x3, x4, x5, x6, x7⟩ := id hX
  have l0 : ls[0]? = some (.val (.ref a)) := hl (0, .ref a) (by simp [lv_args])
  have l1 : ls[1]? = some (.val (.int i)) := hl (1, .int i) (by simp [lv_args, Value.category])
  refine lv_aload_n x1 x2 (k := 0) (i := 0) (by decide +kernel) rfl l0 ?_
  refine kJcallV (i := 492) (k := 0) (vs := []) (y := kJ_lat) (rv := some (.int 1)) hX hK va_S.rf hls (by decide +kernel) rfl (kiG2 (i := 200) rfl rfl) (kiG2 (i := 203) rfl rfl) (kiG1 (i := 14) rfl rfl) (kiG2 (i := 201) rfl rfl) (kiG2 (i := 202) rfl rfl) (by decide) kJm_lat (by decide) (by decide) (Nat.le_refl _) (Nat.le_refl _) (by decide) ?_
  refine lv_if_eq x1 x2 (off := 12) (tgt := 16) (by decide +kernel) (by decide) (fun q => absurd q (by decide)) (fun _ => ?_)
  refine lv_aload_n x1 x2 (k := 0) (i := 0) (by decide +kernel) rfl l0 ?_
  refine vk_getf (index := 9) x1 x2 hK.2.2.1 va_S.rf x6 (x7 _ (kiG8 (i := 168) rfl rfl)) (fun _ h => h) (by decide +kernel) ?_
  refine lv_iload_n x1 x2 (k := 1) (i := 1) (by decide +kernel) rfl l1 ?_
  refine kJcallS (i := 495) (k := 2) (vs := [.ref av, .int i]) (y := kJ_chL) (rv := some (.int v)) (rest := []) hX hK va_S.rf hls (by decide +kernel) (kiG2 (i := 204) rfl rfl) (kiG2 (i := 206) rfl rfl) (kiG1 (i := 15) rfl rfl) ⟨by decide, by decide⟩ (kiG2 (i := 205) rfl rfl) (by show _ = some 2; decide) (kJm_chL hi hm hin hv hv2 hv3) (Nat.le_refl _) (by decide) (Nat.le_refl _) (Nat.le_refl _) (by decide) ?_
  exact W.zret x1 x2 x4 hv3 (fun t ht _ => ⟨rfl, ht⟩) (fun q hq => by cases hq) (by decide +kernel) x5
end KJM
theorem kJ_all : ∀ j : Fin 30, (kstrs.getD j.val []).length ≤ 100 ∧ ∀ x ∈ kstrs.getD j.val [], 0 ≤ x ∧ x < 128 := by decide +kernel
theorem kJ_c1 : ∀ x : Fin 128, (((Int32.ofInt x.val) &&& 255).toUInt32 % 65536).toInt32 = Int32.ofInt x.val := by decide +kernel
theorem kJ_c2 : ∀ x : Fin 128, (match narrow .char (.int (Int32.ofInt x.val)) with | .int y => decide (y = Int32.ofInt x.val) | _ => false) = true := by decide +kernel
theorem kJ_c3 (x : Fin 128) : narrow .char (.int (Int32.ofInt x.val)) = .int (Int32.ofInt x.val) := by
  have h := kJ_c2 x
  split at h
  · rename_i y hy
    rw [hy, of_decide_eq_true h]
  · cases h
theorem kStrAll (l : Launch) (base : Nat) (ad : Nat → Nat) (cT : Nat → ClassId) (D : va_G) (sc : List Int) : kStrOK l base ad cT D sc := by
  have hx : ∀ j : Nat, j < 30 → ksx sc j = kstrs.getD j [] := fun j hj => by unfold ksx; rw [if_neg (by omega)]
  refine ⟨?_, ?_⟩
  · intro p e R s mid args below meth cc c n0 m0 Q pc L st h j i hC hd ho hw hf hlo hc1 hs1 hj hwt k H ls locs hH hL hst hS hn hm
    have hK0 := hC.2.2.2.2.2.2.2.2.2.2.2.2.1
    obtain ⟨-, hZ, adV, hA⟩ := hK0
    obtain ⟨a1, a2, a3, a4⟩ := hA j hj
    have hK : kJK base (ad j) (adV j) _ _ s := ⟨a1, a2, a3, a4, hZ.1, hZ.2⟩
    have hst2 := (List.forall_mem_cons.mp hst).2
    have hlen := (kJ_all ⟨j, hj⟩).1
    rw [hx j hj] at k
    have this := k H ls locs hH hL (List.forall_mem_cons.mpr ⟨by
      show kR32 _
      unfold kR32
      have : ((kstrs.getD j []).length : Int) ≤ 100 := by exact_mod_cast hlen
      omega, hst2⟩) hS hn hm
    rw [ho] at this
    have hX : kJx p s mid args meth cc (kon (kaq c).2.2.2.2) (kaq c).2.1 (kaq c).2.2.1 (kaq c).2.2.2.1 := ⟨hC.1, hC.2.1, hC.2.2.1, hC.2.2.2.1, hC.2.2.2.2.1, hC.2.2.2.2.2.1, hC.2.2.2.2.2.2.1⟩
    refine kJcallV (k := 1) (vs := []) (y := kJ_len) (rv := some (.int (Int32.ofNat (kstrs.getD j []).length))) (rest := st.map (kc base ad)) hX hK hS hL.2.2.1 hd rfl hw (kiG2 (i := 189) rfl rfl) (kiG1 (i := 14) rfl rfl) (kiG2 (i := 187) rfl rfl) (kiG2 (i := 188) rfl rfl) (by decide) kJm_len (by omega) (by omega) hc1 hs1 (by rw [kn_wts]; exact hwt) ?_
    exact this
  · intro p e R s mid args below meth cc c n0 m0 Q pc L st h x j i hC hd ho hw hf hlo hc1 hs1 ⟨hj, hx0, hx1, hwt⟩ k H ls locs hH hL hst hS hn hm
    have hK0 := hC.2.2.2.2.2.2.2.2.2.2.2.2.1
    obtain ⟨-, hZ, adV, hA⟩ := hK0
    obtain ⟨a1, a2, a3, a4⟩ := hA j hj
    have hK : kJK base (ad j) (adV j) _ _ s := ⟨a1, a2, a3, a4, hZ.1, hZ.2⟩
    have hst2 := (List.forall_mem_cons.mp (List.forall_mem_cons.mp hst).2).2
    have hlen := (kJ_all ⟨j, hj⟩).1
    have hlen2 : (kstrs.getD j []).length ≤ 100 := hlen
    rw [hx j hj] at k hx1
    obtain ⟨m, rfl⟩ : ∃ m : Nat, x = (m : Int) := ⟨x.toNat, by omega⟩
    have hm1 : m < (kstrs.getD j []).length := by omega
    have hmem : (kstrs.getD j []).getD m 0 ∈ kstrs.getD j [] := by
      rw [List.getD_eq_getElem?_getD (l := kstrs.getD j []), List.getElem?_eq_getElem hm1]
      exact List.getElem_mem hm1
    obtain ⟨c0, c1⟩ := (kJ_all ⟨j, hj⟩).2 _ hmem
    obtain ⟨w, hw'⟩ : ∃ w : Fin 128, (kstrs.getD j []).getD m 0 = (w.val : Int) := ⟨⟨((kstrs.getD j []).getD m 0).toNat, by omega⟩, by show _ = ((((kstrs.getD j []).getD m 0).toNat : Nat) : Int); omega⟩
    have hcl : (Int32.ofInt (m : Int)).toInt = m := Int32.toInt_ofInt_of_le (by omega) (by omega)
    have htn : (Int32.ofInt (m : Int)).toNatClampNeg = m := by
      show (Int32.ofInt (m : Int)).toInt.toNat = m
      rw [hcl]; rfl
    have hnl : (Int32.ofNat (kstrs.getD j []).length).toInt = (kstrs.getD j []).length := Int32.toInt_ofNat_of_lt (by omega)
    have hneg : ¬ Int32.ofInt (m : Int) < 0 := by
      rw [Int32.lt_iff_toInt_lt, hcl]
      simp
    have hlt : Int32.ofInt (m : Int) < Int32.ofNat (kstrs.getD j []).length := by
      rw [Int32.lt_iff_toInt_lt, hcl, hnl]
      omega
    have hin : vp_in (Int32.ofInt (m : Int)) (kstrs.getD j []).length := by
      intro q
      rcases q with q | q
      · exact hneg q
      · rw [htn] at q; omega
    have this := k H ls locs hH hL (List.forall_mem_cons.mpr ⟨by
      show kR32 _
      unfold kR32
      rw [Int.toNat_natCast]
      omega, hst2⟩) hS hn hm
    rw [ho] at this
    have hX : kJx p s mid args meth cc (kon (kaq c).2.2.2.2) (kaq c).2.1 (kaq c).2.2.1 (kaq c).2.2.2.1 := ⟨hC.1, hC.2.1, hC.2.2.1, hC.2.2.2.1, hC.2.2.2.2.1, hC.2.2.2.2.2.1, hC.2.2.2.2.2.2.1⟩
    refine kJcallV (k := 3) (vs := [.int (Int32.ofInt (m : Int))]) (y := kJ_chr) (rv := some (.int (Int32.ofInt ((kstrs.getD j []).getD m 0)))) (rest := st.map (kc base ad)) hX hK hS hL.2.2.1 hd rfl hw (kiG2 (i := 199) rfl rfl) (kiG1 (i := 14) rfl rfl) (kiG2 (i := 197) rfl rfl) (kiG2 (i := 198) rfl rfl) (by show _ = some 1; decide) (kJm_chr hneg hlt hin (by rw [htn]) (by rw [hw']; exact kJ_c1 w) (by rw [hw']; exact kJ_c3 w)) (by omega) (by omega) hc1 hs1 (by rw [kn_wts]; exact hwt) ?_
    exact this
