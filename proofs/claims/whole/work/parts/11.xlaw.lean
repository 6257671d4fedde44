/-! THE CLAIM OUT OF ONE WALK OF THE LAW'S BODY. Your part is whole_start (and what it stands on); all else here is the same for every law, but numbers. -/
def R_law : String := "KnotTownLaw"
def lw_P (b : Addr) (xs : List Int32) (args : Array Value) (s : State) : Prop := args = #[.ref b] ∧ s.IntsAt b xs ∧ xs.length ≤ 3072 ∧ (Jvm.Cond.and given_1 narrow_1).before args s = true
def lw_Q (_ : Array Value) (s : State) (o : Outcome) (t : State) : Prop := o = .returned (some (.int 1)) ∧ Framed s o t [] 600000 7302250
def lw_Z (below : List Frame) (a : Array Value) (s : State) : State → Prop := fun t => ∃ o, t.status = .running ∧ Ended t below o ∧ lw_Q a s o t
/-- the law's own end, with 1 on the stack, nothing written that was there before, its room as the claim has it -/
theorem lw_ret {p : Program} {l : Launch} {e : Env} {s : State} {m : MethodId} {below : List Frame} {meth : Method} {c : Code} {b : Nat} (hx : p.tables.exec = Jvm.exec) (hb : c.code = code) (hr : meth.sig.returnType = ret) (hlocks : meth.locks = false) {pc : Nat} {H : Heap} {ls : Array Slot} (hdg : decode code pc = .ok (.ireturn, 1)) : W p l e room_1 s m #[Value.ref b] below meth c H [] 600000 7302250 (lw_Z below #[Value.ref b] s) (F0 m pc ls [.int 1]) := by
  intro T hT X
  obtain ⟨fs, hret, hrun, hended, hW, hframe⟩ := X.leave (v := some (.int 1)) (hlocks := hlocks) (fun h => by rw [hr] at h; cases h)
  have hmeth' : T.vm.method? m = some meth := X.method'
  refine ⟨T.setFrames fs, ?_, .returned (some (.int 1)), hrun, hended, rfl, ⟨_, rfl⟩, hW, hframe⟩
  jvm_step X.here [X.here.top, hx, hb, hdg, hmeth', hr, ret, narrow_b1]
  (try refine ⟨rfl, ?_⟩); (try refine ⟨rfl, ?_⟩)
  first | (intro acts; rw [hret _ acts rfl rfl rfl]) | rw [hret _ _ rfl rfl rfl]
  exact Steps.refl _
/-- what holds at the law's entry: the machine, the code, the tables' words (any of lw_tbl by 'hts w (by decide +kernel)'), the script of L ints xs at the cell b, what the Statement gives of the start (any of its parts by flat_of_before) -/
def lw_At (p : Program) (s : State) (m : MethodId) (meth : Method) (c : Code) (b L : Nat) (xs : Nat → Int32) : Prop :=
  p.tables.exec = Jvm.exec ∧ c.code = code ∧ meth.sig.returnType = ret ∧ c.maxLocals = 4 ∧ s.vm.findClass R_law = some m.cls ∧ (∀ w ∈ lw_tbl, w.before #[Value.ref b] s = true) ∧ va_X b L xs s s.heap ∧ b < s.heap.size ∧ meth.locks = false ∧ (Jvm.Cond.and given_1 narrow_1).before #[Value.ref b] s = true ∧ meth.name = "law"
def kTm (j : Nat) : Term := Term.string (kon (kKS.getD j (0, 0, 0)).1) (kKS.getD j (0, 0, 0)).2.1
def kNd (j : Nat) : List Cond := Cond.exactly (kTm j) "java/lang/String" :: Cond.eq (.field (kTm j) "java/lang/String" "coder" "B") (.int 0) :: Cond.arrayOf (.field (kTm j) "java/lang/String" "value" "[B") .byte :: Cond.eq (.length (.field (kTm j) "java/lang/String" "value" "[B")) (.int (Int32.ofNat (kstrs.getD j []).length)) :: (List.range (kstrs.getD j []).length).map (fun i => Cond.eq (.elem (.field (kTm j) "java/lang/String" "value" "[B") (.int (Int32.ofNat i))) (.int (Int32.ofInt ((kstrs.getD j []).getD i 0))))
def kFl : List Cond := flatC (Jvm.Cond.and given_1 narrow_1)
theorem kNd_0 : ∀ c ∈ kNd 0, c ∈ kFl := by decide +kernel
theorem kNd_1 : ∀ c ∈ kNd 1, c ∈ kFl := by decide +kernel
theorem kNd_2 : ∀ c ∈ kNd 2, c ∈ kFl := by decide +kernel
theorem kNd_3 : ∀ c ∈ kNd 3, c ∈ kFl := by decide +kernel
theorem kNd_4 : ∀ c ∈ kNd 4, c ∈ kFl := by decide +kernel
theorem kNd_5 : ∀ c ∈ kNd 5, c ∈ kFl := by decide +kernel
theorem kNd_6 : ∀ c ∈ kNd 6, c ∈ kFl := by decide +kernel
theorem kNd_7 : ∀ c ∈ kNd 7, c ∈ kFl := by decide +kernel
theorem kNd_8 : ∀ c ∈ kNd 8, c ∈ kFl := by decide +kernel
theorem kNd_9 : ∀ c ∈ kNd 9, c ∈ kFl := by decide +kernel
theorem kNd_10 : ∀ c ∈ kNd 10, c ∈ kFl := by decide +kernel
theorem kNd_11 : ∀ c ∈ kNd 11, c ∈ kFl := by decide +kernel
theorem kNd_12 : ∀ c ∈ kNd 12, c ∈ kFl := by decide +kernel
theorem kNd_13 : ∀ c ∈ kNd 13, c ∈ kFl := by decide +kernel
theorem kNd_14 : ∀ c ∈ kNd 14, c ∈ kFl := by decide +kernel
theorem kNd_15 : ∀ c ∈ kNd 15, c ∈ kFl := by decide +kernel
theorem kNd_16 : ∀ c ∈ kNd 16, c ∈ kFl := by decide +kernel
theorem kNd_17 : ∀ c ∈ kNd 17, c ∈ kFl := by decide +kernel
theorem kNd_18 : ∀ c ∈ kNd 18, c ∈ kFl := by decide +kernel
theorem kNd_19 : ∀ c ∈ kNd 19, c ∈ kFl := by decide +kernel
theorem kNd_20 : ∀ c ∈ kNd 20, c ∈ kFl := by decide +kernel
theorem kNd_21 : ∀ c ∈ kNd 21, c ∈ kFl := by decide +kernel
theorem kNd_22 : ∀ c ∈ kNd 22, c ∈ kFl := by decide +kernel
theorem kNd_23 : ∀ c ∈ kNd 23, c ∈ kFl := by decide +kernel
theorem kNd_24 : ∀ c ∈ kNd 24, c ∈ kFl := by decide +kernel
theorem kNd_25 : ∀ c ∈ kNd 25, c ∈ kFl := by decide +kernel
theorem kNd_26 : ∀ c ∈ kNd 26, c ∈ kFl := by decide +kernel
theorem kNd_27 : ∀ c ∈ kNd 27, c ∈ kFl := by decide +kernel
theorem kNd_28 : ∀ c ∈ kNd 28, c ∈ kFl := by decide +kernel
theorem kNd_29 : ∀ c ∈ kNd 29, c ∈ kFl := by decide +kernel
theorem kNd_ok (j : Nat) (h : j < 30) : ∀ c ∈ kNd j, c ∈ kFl := by
  match j, h with
  | 0, _ => exact kNd_0
  | 1, _ => exact kNd_1
  | 2, _ => exact kNd_2
  | 3, _ => exact kNd_3
  | 4, _ => exact kNd_4
  | 5, _ => exact kNd_5
  | 6, _ => exact kNd_6
  | 7, _ => exact kNd_7
  | 8, _ => exact kNd_8
  | 9, _ => exact kNd_9
  | 10, _ => exact kNd_10
  | 11, _ => exact kNd_11
  | 12, _ => exact kNd_12
  | 13, _ => exact kNd_13
  | 14, _ => exact kNd_14
  | 15, _ => exact kNd_15
  | 16, _ => exact kNd_16
  | 17, _ => exact kNd_17
  | 18, _ => exact kNd_18
  | 19, _ => exact kNd_19
  | 20, _ => exact kNd_20
  | 21, _ => exact kNd_21
  | 22, _ => exact kNd_22
  | 23, _ => exact kNd_23
  | 24, _ => exact kNd_24
  | 25, _ => exact kNd_25
  | 26, _ => exact kNd_26
  | 27, _ => exact kNd_27
  | 28, _ => exact kNd_28
  | 29, _ => exact kNd_29
  | n + 30, h => exact absurd h (by omega)
theorem kKS_at : ∀ q ∈ kKS, kKS.getD q.2.2 (0, 0, 0) = q ∧ q.2.2 < 30 := by decide +kernel
theorem kArr_of {ty : FieldType} {args : Array Value} {s : State} (h : (Cond.arrayClass ty).before args s = true) : ∃ cA : ClassId, ArrOfT s cA ty ∧ s.vm.findClass ("[" ++ ty.toString) = some cA := by
  obtain ⟨c, k, comp, h1, h2, h3⟩ := Cond.arrayClass_spec h
  exact ⟨c, fun n z => ⟨fun k => by simp [arrV], k, h2, comp, h3⟩, h1⟩
theorem kArr_ob {C : String} {args : Array Value} {s : State} (h : (Cond.arrayOver (.object C)).before args s = true) : ∃ cA : ClassId, ArrOfT s cA (.object C) ∧ va_RA s cA (.object C) := by
  obtain ⟨comp, c, k, h1, h2, h3, h4, h5⟩ := Cond.arrayOver_spec h
  exact ⟨c, fun n z => ⟨fun k => by simp [arrV], k, h3, comp, h4⟩, k, comp, h3, h4, h1, h5⟩
def kcT7 (c0 c1 c2 c3 c4 c5 c6 : ClassId) (t : Nat) : ClassId := if t = 0 then c0 else if t = 1 then c1 else if t = 2 then c2 else if t = 3 then c3 else if t = 4 then c4 else if t = 14 then c5 else c6
/-- the small machine's world at the law's entry -/
theorem kStart {s : State} {args : Array Value} {b L : Nat} {xs : Nat → Int32} (hts : ∀ w ∈ lw_tbl, w.before args s = true) (hgv : (Jvm.Cond.and given_1 narrow_1).before args s = true) (hX : va_X b L xs s s.heap) (hb : b < s.heap.size) (hL : L ≤ 3072) :
    ∃ (ad : Nat → Nat) (cT : Nat → ClassId) (D : va_G), ad 99 = b ∧ kSt s.heap.size ad cT D ((List.range L).map (fun j => (xs j).toInt)) s := by
  have hG : ∀ w ∈ kG, w.before args s = true := fun w hw => hts w (List.mem_filter.mp hw).1
  have hF : ∀ c ∈ kFl, c.before args s = true := flat_of_before _ hgv
  have hA : ∀ a : Nat, a < s.heap.size → ¬ kA s.heap.size a := fun a h q => Nat.not_le.mpr h q
  -- classes
  have hcl : ∀ c : Nat, ∃ q : ClassId × (Nat → Nat), c < 12 → u_Kn s (kcq c).1 (kcq c).2.1 (kcq c).2.2 q.1 q.2 := by
    intro c
    by_cases h : c < 12
    · obtain ⟨-, g2, g3, -⟩ := kCa_ok c h
      obtain ⟨cC, iS, hk⟩ := u_known hG g2 (hG _ g3)
      exact ⟨(cC, iS), fun _ => hk⟩
    · exact ⟨(0, fun _ => 0), fun q => absurd q h⟩
  obtain ⟨Dq, hD⟩ := Classical.axiomOfChoice hcl
  -- arrays
  obtain ⟨c0, a0, r0⟩ := kArr_of (hG _ kAw_int)
  obtain ⟨c1, a1, r1⟩ := kArr_of (hG _ kAw_byte)
  obtain ⟨c2, a2, r2⟩ := kArr_of (hG _ kAw_short)
  obtain ⟨c3, a3, r3⟩ := kArr_of (hG _ kAw_long)
  obtain ⟨c4, a4, r4⟩ := kArr_of (hG _ kAw_boolean)
  obtain ⟨c5, a5, r5⟩ := kArr_ob (hts _ kAo_4)
  obtain ⟨c6, a6, r6⟩ := kArr_ob (hts _ kAo_7)
  -- text constants
  have hst : ∀ j : Nat, ∃ q : Nat × Nat, j < 30 → (kTm j).eval args s none [] s = some (.ref q.1) ∧ va_O "java/lang/String" q.1 (kA s.heap.size) s s.heap ∧ va_OF "java/lang/String" "coder" "B" (.int 0) q.1 (kA s.heap.size) s s.heap ∧ va_OF "java/lang/String" "value" "[B" (.ref q.2) q.1 (kA s.heap.size) s s.heap ∧ va_T .byte q.2 (kstrs.getD j []).length (fun i => .int (Int32.ofInt ((kstrs.getD j []).getD i 0))) (kA s.heap.size) s s.heap := by
    intro j
    by_cases hj : j < 30
    · have hn := kNd_ok j hj
      unfold kNd at hn
      obtain ⟨n1, hn⟩ := List.forall_mem_cons.mp hn
      obtain ⟨n2, hn⟩ := List.forall_mem_cons.mp hn
      obtain ⟨n3, hn⟩ := List.forall_mem_cons.mp hn
      obtain ⟨n4, hn⟩ := List.forall_mem_cons.mp hn
      have hlen := (kJ_all ⟨j, hj⟩).1
      have hlen2 : (kstrs.getD j []).length ≤ 100 := hlen
      obtain ⟨a, c, cA, kA', q1, q2, q3, q4, q5, q6, -⟩ := Cond.exactly_spec (args := args) (first := s) (o := none) (s := s) (idx := []) (t := kTm j) (cls := "java/lang/String") (hF _ n1)
      obtain ⟨t, ht, hT⟩ := va_Tof (f := fun i => .int (Int32.ofInt ((kstrs.getD j []).getD i 0))) (A := kA s.heap.size) (by omega) (hF _ n3) (va_eqt (hF _ n4)) (fun i hi => va_eqt (hF _ (hn _ (List.mem_map.mpr ⟨i, List.mem_range.mpr hi, rfl⟩)))) hA
      exact ⟨(a, t), fun _ => ⟨q1, ⟨cA, q3, q5, by rw [q6]; exact q2, hA a (Array.getElem?_eq_some_iff.mp q3).1⟩, vk_OFof q1 (va_eqt (hF _ n2)) hA, vk_OFof q1 ht hA, hT⟩⟩
    · exact ⟨(0, 0), fun q => absurd q hj⟩
  obtain ⟨aq, haq⟩ := Classical.axiomOfChoice hst
  have hlenS : ((List.range L).map (fun j => (xs j).toInt)).length = L := by simp
  refine ⟨fun j => if j = 99 then b else (aq j).1, kcT7 c0 c1 c2 c3 c4 c5 c6, (fun c => (Dq c).1, fun c => (Dq c).2), rfl, ⟨fun c q hq => ?_, fun k q hk => ?_⟩, fun q hq => va_Nw.of rfl (hts _ (kMNw q hq)), va_AO.of (hts _ kAo_4), va_AO.of (hts _ kAo_7), ⟨fun q hq => ?_, ⟨?_, ?_⟩, fun j => (aq j).2, fun j hj => ?_⟩, ⟨?_, hb, by rw [hlenS]; exact hL, fun x hx => ?_⟩, Nat.le_refl _⟩
  · have hc : c < 12 := by
      have := (List.getElem?_eq_some_iff.mp hq).1
      exact this
    have e := (kCa_ok c hc).1
    rw [e] at hq
    cases hq
    exact hD c hc
  · match k, hk with
    | 0, hk => cases hk; exact ⟨a0, r0⟩
    | 1, hk => cases hk; exact ⟨a1, r1⟩
    | 2, hk => cases hk; exact ⟨a2, r2⟩
    | 3, hk => cases hk; exact ⟨a3, r3⟩
    | 4, hk => cases hk; exact ⟨a4, r4⟩
    | 5, hk => cases hk; exact ⟨a5, r5⟩
    | 6, hk => cases hk; exact ⟨a6, r6⟩
    | k + 7, hk => cases hk
  · obtain ⟨e1, e2⟩ := kKS_at q hq
    show vk_R (kon q.1) q.2.1 (kstx.getD q.2.2 "") (if q.2.2 = 99 then b else (aq q.2.2).1) s
    rw [if_neg (by omega)]
    have h1 := (haq q.2.2 e2).1
    unfold kTm at h1
    rw [e1] at h1
    exact vk_R.of (hts _ (kKSw q hq).1) h1
  · exact va_Zof (hts _ (kin2 (i := 195) rfl)) (hG _ (kiG1 (i := 14) rfl rfl)) (va_eqi (hF _ (by decide +kernel))) hA
  · exact va_Zqof (hts _ (kin2 (i := 211) rfl)) (hG _ (kiG1 (i := 16) rfl rfl)) (hF _ (by decide +kernel)) hA
  · show va_O "java/lang/String" (if j = 99 then b else (aq j).1) _ _ _ ∧ va_OF "java/lang/String" "coder" "B" (.int 0) (if j = 99 then b else (aq j).1) _ _ _ ∧ va_OF "java/lang/String" "value" "[B" (.ref (aq j).2) (if j = 99 then b else (aq j).1) _ _ _ ∧ _
    rw [if_neg (by omega)]
    exact (haq j hj).2
  · show va_X b ((List.range L).map (fun j => (xs j).toInt)).length _ s s.heap
    rw [hlenS]
    obtain ⟨scr, g1, g2, g3, g4, g5⟩ := hX
    refine ⟨scr, g1, g2, g3, g4, fun j hj => ?_⟩
    dsimp only
    rw [g5 j hj, List.getD_eq_getElem?_getD, List.getElem?_map, List.getElem?_range hj]
    simp
  · obtain ⟨j, -, rfl⟩ := List.mem_map.mp hx
    exact ⟨Int32.le_toInt _, Int32.toInt_le _⟩
/-- WHAT IS OWED: the small machine answers 1 on every script -/
def kOwed : Prop := ∀ sc : List Int, sc.length ≤ 3072 → (∀ x ∈ sc, kR32 x) → ∃ h' : kH, kR sc 1000 0 [.inr (.inr (.inr 99))] (0, 0, fun _ => none) (some (.inl 1)) h' ∧ h'.1 ≤ 600000 ∧ h'.2.1 ≤ 7302250
set_option maxHeartbeats 2000000 in
theorem whole_start {p : Program} {e : Env} {s : State} {m : MethodId} {below : List Frame} {meth : Method} {c : Code} (l : Launch) (hflags : l.flags = flags0) (hO : kOwed) {b L : Nat} {xs : Nat → Int32} (hL : L ≤ 3072) (C0 : lw_At p s m meth c b L xs) : W p l e room_1 s m #[Value.ref b] below meth c s.heap [] 0 0 (lw_Z below #[Value.ref b] s) (entryFrame m ([Value.ref b] : List Value).toArray 4) := by
  obtain ⟨x1, x2, x3, x4, x5, x6, x7, x8, x9, x10, x11⟩ := C0
  obtain ⟨ad, cT, D, hb, hSt⟩ := kStart x6 x10 x7 x8 hL
  have hsc := hSt.2.2.2.2.2.1
  obtain ⟨h', hR, hc1, hc2⟩ := hO _ hsc.2.2.1 hsc.2.2.2
  obtain ⟨n, rv, g, hrun, hrv, hg⟩ := hR
  subst hrv
  subst hg
  have hC : kCx p s m #[Value.ref b] meth c 0 s.heap.size ad cT D ((List.range L).map (fun j => (xs j).toInt)) := ⟨x1, x2, x4, x3, x9, x5, fun w hw => x6 w (List.mem_filter.mp hw).1, x11, hSt⟩
  have hz := (ksim l s.heap.size ad cT D _ (kStrAll l _ ad cT D _) n 1000 0 0 (kent [.inr (.inr (.inr 99))] 4) [] (0, 0, fun _ => none) _ g (by decide) hrun).2 p e room_1 s m #[Value.ref b] below meth c 0 0 hC (by decide) (by decide) hc1 hc2
  have hl := lv_entry [Value.ref b] (n := 4) (by simp [lg_sl, Value.category])
  rw [lg_entry_eq]
  generalize (lg_sl [Value.ref b] ++ List.replicate (4 - (lg_sl [Value.ref b]).length) Slot.unset).toArray = ls at hl ⊢
  have hLR : kLR s.heap.size ad (kent [.inr (.inr (.inr 99))] 4) ls (kaq 0).2.2.1 := by
    refine ⟨rfl, fun i v hi => ?_, hl.1, hl.2.1, fun i v hi => ?_⟩
    · have := (kargs_get s.heap.size ad _ 0 i v (kent_get hi)).1
      rw [List.mem_singleton.mp this]
      trivial
    · have h2 := (kargs_get s.heap.size ad _ 0 i v (kent_get hi)).2
      rw [Nat.zero_add] at h2
      have h3 : (i, kc s.heap.size ad v) ∈ lv_args 0 [Value.ref (ad 99)] := h2
      rw [hb] at h3
      exact hl.2.2 _ h3
  have hw := hz s.heap ls [] ⟨rfl, fun k e he => by cases he⟩ hLR (fun v hv => by cases hv) va_S.rf (Nat.le_refl _) (Nat.le_refl _)
  rw [kofs_0] at hw
  intro T hT X
  obtain ⟨t, ht, o, o1, o2, o3, LL, o4, o5⟩ := hw T hT X
  refine ⟨t, ht, o, o1, o2, ?_⟩
  have hox : o = .returned (some (.int 1)) := o3.1
  refine ⟨hox, o4.1, o4.2.1, o4.2.2.weaken (fun q hq hlt => ?_) hc1 hc2⟩
  exact absurd (o5 q hq) (Nat.not_le.mpr hlt)
set_option maxHeartbeats 4000000 in
theorem lw_walk (l : Launch) (hflags : l.flags = flags0) (hO : kOwed) (b : Addr) (xs : List Int32) : MetFree l x (headSpec (Jvm.Cond.code x code maxLocals ret :: tables_1) room_1) (lw_P b xs) (fun _ _ _ _ _ => True) lw_Q := by
  refine MetFree.of_bodyS (code := code) (maxLocals := maxLocals) (ret := ret) (by decide) ?_ ?_
  · intro args s m h hn
    obtain ⟨meth, c, h1, h2, h3, h4, h5, h6, -, -⟩ := Cond.code_spec hn (atoms_spec (ws := Jvm.Cond.code x code maxLocals ret :: tables_1) h _ List.mem_cons_self)
    exact ⟨meth, c, h1, h2, h3, h4, h5, h6⟩
  · intro p e s m args below meth c s₁ B hml0 hP _
    obtain ⟨rfl, hx, hbd, hgv⟩ := hP
    obtain ⟨scr, harrAt, hlist, hof, hsmall⟩ := hx
    obtain ⟨hcb, hkn, -, -⟩ := State.arrayAt?_spec harrAt
    have hown : s.vm.findClass R_law = some m.cls := findClass_of_methodNamed B.named
    have hts0 : ∀ c ∈ (Jvm.Cond.code x code maxLocals ret :: tables_1), c.before #[Value.ref b] s = true := atoms_spec (ws := Jvm.Cond.code x code maxLocals ret :: tables_1) B.pre
    have hts : ∀ w ∈ lw_tbl, w.before #[Value.ref b] s = true := k2_hts_sels lw_privs (fun w hw => hts0 w (List.mem_cons_of_mem _ hw)) lw_privs_ok
    have hml : c.maxLocals = 4 := B.maxLocals_eq (hts0 _ List.mem_cons_self)
    have X₀ : Stand p l e room_1 s m #[Value.ref b] below meth c s₁ [] 0 0 := Stand.of_body B
    have hh0 : s₁.heap = s.heap := by rw [B.state]; rfl
    have hsz : scr.slots.size = xs.length := by rw [← Array.length_toList, hlist, List.length_map]
    have hval : ∀ j : Nat, j < xs.length → scr.slots[j]? = some (.int (xs.getD j 0)) := fun j hj => by
      rw [← Array.getElem?_toList, hlist]
      simp [hj]
    have hbl : b < s.heap.size := (Array.getElem?_eq_some_iff.mp hcb).1
    have hX : va_X b xs.length (fun j => xs.getD j 0) s s.heap := ⟨scr, hcb, hof, hkn, hsz, hval⟩
    have K : W p l e room_1 s m #[Value.ref b] below meth c s₁.heap [] 0 0 (lw_Z below #[Value.ref b] s) (entryFrame m ([Value.ref b] : List Value).toArray 4) := by
      rw [hh0]
      exact whole_start l hflags hO hbd ⟨B.exec, B.bytes, B.returns, hml, hown, hts, hX, hbl, B.notSynchronized, hgv, (name_of_methodNamed B.named B.method).1⟩
    obtain ⟨t, a1, o, b1, b2, b3⟩ := K s₁ rfl X₀
    exact ⟨t, o, a1, b1, b2, b3⟩
theorem lw_pre_spec {args : Array Value} {s : State} (h : (Jvm.Cond.and given_1 narrow_1).before args s = true) (hr : rest_1_c.before args s = true) : ∃ (b : Addr) (xs : List Int32), lw_P b xs args s := by
  have hs := flat_of_before _ h
  have hq := flat_of_before _ hr
  have hc : (Cond.count 1).before args s = true := hs _ (by decide +kernel)
  have harr : (Cond.arrayOf (.arg 0) .int).before args s = true := hs _ (by decide +kernel)
  have hle : (Cond.le (.length (.arg 0)) (.int 3072)).before args s = true := hs _ (by decide +kernel)
  have hlen : (Cond.isInt (.length (.arg 0))).before args s = true := hq _ (by decide +kernel)
  have hall : (Cond.all (.arg 0) (.isInt (.elem (.arg 0) (.index 0)))).before args s = true := hq _ (by decide +kernel)
  obtain ⟨b, xs, hb, hx⟩ := State.ints_of_pre rfl harr hlen hall
  have hsm : xs.length < 2 ^ 31 := hx.choose_spec.2.2.2
  have hev : (Term.length (.arg 0)).eval args s none [] s = some (.int xs.length.toInt32) := hx.length_eval hb
  have hv := Cond.le_ints hev (show (Term.int 3072).eval args s none [] s = some (.int 3072) from rfl)
  have hd : xs.length.toInt32 ≤ 3072 := by
    simpa [Cond.before, Cond.holds, hv] using hle
  have hN : xs.length ≤ 3072 := (Int32.ofNat_le_ofNat hsm (by decide)).mp (show Int32.ofNat xs.length ≤ Int32.ofNat 3072 from hd)
  exact ⟨b, xs, Cond.one_arg hc (show args[0]? = some (.ref b) from hb), hx, hN, h⟩
theorem lw_comes (l : Launch) (hflags : l.flags = flags0) (hO : kOwed) : Comes l x (Jvm.Cond.code x code maxLocals ret :: tables_1) room_1 (fun tb e args s => Calls_1 tb e args s ∧ rest_1 tb e args s ∧ Pre_1 tb e args s)
    (fun _ _ args s o t => lw_Q args s o t) := by
  intro p e ha hc hk s m args below hf hfit hheap happ hpre
  obtain ⟨b, xs, hP⟩ := lw_pre_spec hpre.2.2 hpre.2.1
  obtain ⟨k, o, h1, h2, h3, hQ⟩ := lw_walk l hflags hO b xs p e ha hc hk s m args below hf ((Spec.applies_iff_loose hf).mp happ).1 hP trivial
  exact ⟨k, o, h1, h2, h3, hQ⟩
theorem lw_frame {s t : State} {o : Outcome} {args : Array Value} (h : Framed s o t [] 600000 7302250) :
    Framed s o t (fieldLocs frame_1_writes args s ++ arrayLocs frame_1_arrays args s ++ staticLocs frame_1_statics s) 600000 7302250 := h
theorem lw_limb (hO : kOwed) (L : Cond) (hL : ∀ (args : Array Value) (s t : State), L.after args s (.returned (some (.int 1))) t = true) :
    ArmFor flags0 classFile x code maxLocals ret World_1 tables_1 room_1 Calls_1 rest_1 Pre_1
      (fun tb e a s o t => postC L tb e a s o t ∧ Framed s o t (fieldLocs frame_1_writes a s ++ arrayLocs frame_1_arrays a s ++ staticLocs frame_1_statics s) 600000 7302250) := by
  intro l hflags _ _ p e ha hc hk s m args below hf hfit hheap happ hpre
  obtain ⟨k, o, h1, h2, h3, rfl, hF⟩ := lw_comes l hflags hO p e ha hc hk s m args below hf hfit hheap happ hpre
  exact ⟨k, _, h1, h2, h3, hL args s _, lw_frame hF⟩
theorem i_vcO (hO : kOwed) : Claimed_1_1 ∧ Claimed_1_2 := ⟨lw_limb hO limb_1_1 (fun args s t => by simp [limb_1_1, Cond.after, Cond.holds, Cond.value]), lw_limb hO limb_1_2 (fun args s t => Cond.after_iff.mpr (by
  first | (rw [show limb_1_2 = Cond.eq .result (.int 1) from rfl, Cond.eq_ints (x := 1) (y := 1) rfl rfl]; simp; done) | (simp [limb_1_2, Cond.value, Term.eval]; done)))⟩
