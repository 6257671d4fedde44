/-- a method's start and end, in the small machine's words -/
def kPc (base : Nat) (ad : Nat → Nat) (cT : Nat → ClassId) (D : va_G) (sc : List Int) (vs : List kV) (h : kH) : Array Value → State → Prop := fun v U => v = (vs.map (kc base ad)).toArray ∧ kHR base ad cT D h U.heap ∧ kSt base ad cT D sc U
def kQ (base : Nat) (ad : Nat → Nat) (cT : Nat → ClassId) (D : va_G) (rv : Option kV) (h' : kH) : Array Value → State → Outcome → State → Prop := fun _ st oc t => oc = .returned (rv.map (kc base ad)) ∧ kHR base ad cT D h' t.heap ∧ va_F (kA base) st t ∧ ∀ v, rv = some v → kOK v
theorem kSt.to {base : Nat} {ad : Nat → Nat} {cT : Nat → ClassId} {D : va_G} {sc : List Int} {s U : State} (h : kSt base ad cT D sc s) (hW : s.WarmedH U.vm) (hz : s.heap.size ≤ U.heap.size) (hq : ∀ a : Nat, a < s.heap.size → ¬ kA base a → U.heap[a]? = s.heap[a]?) : kSt base ad cT D sc U := by
  obtain ⟨h1, h2, h3, h4, ⟨h5, ⟨z1, z2⟩, adV, h6⟩, ⟨h7, h8, h9⟩, h10⟩ := h
  refine ⟨h1.moved hW.alike, fun q hm => (h2 q hm).warmM hW, h3.moved hW.alike, h4.moved hW.alike, ⟨fun q hm => (h5 q hm).warm hW, ⟨(z1.moved hW.alike).kept hq, (z2.moved hW.alike).kept hq⟩, adV, fun j hj => ?_⟩, ⟨(h7.moved hW.alike).kept (hq _ (Nat.lt_of_lt_of_le h8 h10) (Nat.not_le.mpr h8)), h8, h9⟩, Nat.le_trans h10 hz⟩
  obtain ⟨a1, a2, a3, a4⟩ := h6 j hj
  exact ⟨(a1.moved hW.alike).kept hq, (a2.moved hW.alike).kept hq, (a3.moved hW.alike).kept hq, (a4.moved hW.alike).kept hq⟩
theorem kPc.blind {base : Nat} {ad : Nat → Nat} {cT : Nat → ClassId} {D : va_G} {sc : List Int} {vs : List kV} {h : kH} : FrameBlind (kPc base ad cT D sc vs h) := by
  intro a U g mk q
  obtain ⟨q1, q2, q3⟩ := q
  exact ⟨q1, q2, q3.to (U := U.calling g mk a) (State.WarmedH.refl U) (Nat.le_refl _) (fun _ _ _ => rfl)⟩
theorem kk_ldcwS {p : Program} {l : Launch} {e : Env} {R : Room} {s : State} {m : MethodId} {args : Array Value} {below : List Frame} {meth : Method} {c : Code} {H : Heap} {locs : List Loc} {cells slots : Nat} {Q : State → Prop} {cc : ByteArray} {pc : Nat} {ls : Array Slot} {rest : List Value}
    (hexec : p.tables.exec = Jvm.exec) (hb : c.code = cc) {own tx : String} {index q : Nat} (hown : s.vm.findClass own = some m.cls) (hZ : vk_R own index tx q s) (hdg : decode cc pc = .ok (.ldc_w index, 3))
    (k : W p l e R s m args below meth c H locs cells slots Q (F0 m (pc + 3) ls (.ref q :: rest))) : W p l e R s m args below meth c H locs cells slots Q (F0 m pc ls rest) := by
  intro T hT X
  obtain ⟨t, a1, b1⟩ := k T hT X
  refine ⟨t, ?_, b1⟩
  obtain ⟨k, cf, i, a', hk, hcf, hcp, -, hr, hev'⟩ := Cond.stringRef_spec hown hZ.1
  have ha : a' = q := by
    have h := hev'.symm.trans hZ.2
    injection h with h
    injection h
  subst ha
  obtain ⟨k', hk', he⟩ := X.warmed.alike.2.2 _ _ hk
  have hr' : k'.resolved[index]? = some (some (.string a')) := by
    rcases X.warmed.entry hk hk' index with h | ⟨h, -⟩
    · rw [h]; exact hr
    · rw [hr] at h; cases h
  have hdg2 : decode c.code pc = .ok (.ldc_w index, 3) := by rw [hb]; exact hdg
  jvm_step X.here [hexec, hdg2, ldc_w.wp_string (e := e) (s := T) (f := F0 m pc ls rest) X.here.top hk' (by rw [he]; exact hcf) hcp hr']
  exact a1
section KS
variable {p : Program} {l : Launch} {e : Env} {R : Room} {s : State} {mid : MethodId} {args : Array Value} {below : List Frame} {meth : Method} {cc : Code} {c base : Nat} {ad : Nat → Nat} {cT : Nat → ClassId} {D : va_G} {sc : List Int} {n0 m0 : Nat} {Q : State → Prop} {pc : Nat} {L : kLs} {st : List kV} {h : kH}
theorem kz_arraycopy {a b na nb i : Nat} {f g : Nat → Int} {n dp sp : Int} (hC : kCx p s mid args meth cc c base ad cT D sc) (hd : decode (kaq c).2.1 (kofs c pc) = .ok (.invokestatic i, 3)) (ho : kofs c (pc + 1) = kofs c pc + 3)
    (hw : Cond.methodLink (kon (kaq c).2.2.2.2) i arraycopyName ∈ kG) (hwn : Cond.native arraycopyName ∈ kG) (hws : Cond.static arraycopyName ∈ kG) (hwi : Cond.initialized "java/lang/System" ∈ kG)
    (hb : h.2.2 b = some (.inl (0, nb, f))) (ha : h.2.2 a = some (.inl (0, na, g))) (hn0 : 0 ≤ n) (hdp : 0 ≤ dp) (hsp : 0 ≤ sp) (h4 : sp + n ≤ nb) (h5 : dp + n ≤ na) (hf : 1 ≤ R.frames) (hl : 80 ≤ R.locals) (hwt : kwts st ≤ 8)
    (k : kZ p l e R s mid args below meth cc c base ad cT D n0 m0 Q (pc + 1) L st (kput h a (.inl (0, na, kcpy f g sp.toNat dp.toNat n.toNat)))) : kZ p l e R s mid args below meth cc c base ad cT D n0 m0 Q pc L (.inl n :: .inl dp :: .inr (.inr (.inl (some a))) :: .inl sp :: .inr (.inr (.inl (some b))) :: st) h := by
  intro H ls locs hH hL hst hS hn hm
  obtain ⟨hv0, hst⟩ := List.forall_mem_cons.mp hst
  obtain ⟨hv1, hst⟩ := List.forall_mem_cons.mp hst
  obtain ⟨-, hst⟩ := List.forall_mem_cons.mp hst
  obtain ⟨hv2, hst⟩ := List.forall_mem_cons.mp hst
  obtain ⟨-, hst⟩ := List.forall_mem_cons.mp hst
  have hK := hC.2.2.2.2.2.2.2.2.1
  have hts := hC.2.2.2.2.2.2.1
  have ng : ∀ {x : Int}, kOK (.inl x) → 0 ≤ x → ¬ Int32.ofInt x < 0 := fun hx h0 q => by
    have := (kn_lt hx kn_0).mp q
    omega
  have hca : H[base + a]? = some (vp_cell (cT 0) (na, .inl (fun j => Int32.ofInt (g j)))) := (hH.2 a _ ha).2.2
  have hcb : H[base + b]? = some (vp_cell (cT 0) (nb, .inl (fun j => Int32.ofInt (f j)))) := (hH.2 b _ hb).2.2
  have hoka : kEOK (.inl (0, na, g)) := (hH.2 a _ ha).2.1
  have hokb : kEOK (.inl (0, nb, f)) := (hH.2 b _ hb).2.1
  intro T hT X
  obtain ⟨-, k0, hk0, cm0, hkk0⟩ := (hK.2 0 _ rfl).1 nb (fun j => .int (Int32.ofInt (f j)))
  obtain ⟨-, k1, hk1, cm1, hkk1⟩ := (hK.2 0 _ rfl).1 na (fun j => .int (Int32.ofInt (g j)))
  obtain ⟨vm', X', step⟩ := X.arraycopy hC.1 hC.2.2.2.2.2.1 (hts _ hw) (hts _ hwn) (hts _ hws) (hts _ hwi) (src := base + b) (dst := base + a) (cs := vp_cell (cT 0) (nb, .inl (fun j => Int32.ofInt (f j)))) (cd := vp_cell (cT 0) (na, .inl (fun j => Int32.ofInt (g j)))) (srcPos := Int32.ofInt sp) (destPos := Int32.ofInt dp) (n := Int32.ofInt n) (by rw [hT]; exact hcb) (by rw [hT]; exact hca)
    (fun _ h => by cases h) (fun _ h => by cases h) (fun h => by cases h) (fun h => by cases h) hk0 hk1 hkk0 hkk1 rfl (ng hv2 hsp) (ng hv1 hdp) (ng hv0 hn0)
    (by rw [kn_toInt hv2, kn_toInt hv0]; show ¬ _ > ((arrV (cT 0) nb (fun j => .int (Int32.ofInt (f j)))).slots.size : Int); rw [arrV_size]; omega)
    (by rw [kn_toInt hv1, kn_toInt hv0]; show ¬ _ > ((arrV (cT 0) na (fun j => .int (Int32.ofInt (g j)))).slots.size : Int); rw [arrV_size]; omega)
    (fun vm₁ _ i hi => by
      rw [kn_clamp hv0] at hi
      have e : (vp_cell (cT 0) (nb, .inl (fun j => Int32.ofInt (f j)))).slots.getD ((Int32.ofInt sp).toNatClampNeg + i) .null = .int (Int32.ofInt (f ((Int32.ofInt sp).toNatClampNeg + i))) := by
        show (arrV (cT 0) nb (fun j => .int (Int32.ofInt (f j)))).slots.getD _ _ = _
        rw [Array.getD_eq_getD_getElem?, arrV_read _ _ (by rw [kn_clamp hv2]; omega)]
        rfl
      refine ⟨?_, ?_⟩
      · rw [e]; rfl
      · rw [e]; exact trivial)
    (g := F0 mid (kofs c pc) ls (.int (Int32.ofInt n) :: .int (Int32.ofInt dp) :: .ref (base + a) :: .int (Int32.ofInt sp) :: .ref (base + b) :: st.map (kc base ad))) rfl (by show ls.size = _; rw [hL.2.2.1, hC.2.2.1]) (rest := st.map (kc base ad)) rfl (by rw [hC.2.1]; exact hd) hf (by
      rw [kn_wts]
      show 2 * 0 + _ + (nativeFrameWords "java/lang/System" "arraycopy" 5 + 11) ≤ _
      have : nativeFrameWords "java/lang/System" "arraycopy" 5 ≤ 60 := by decide +kernel
      omega)
  have e1 : copied (vp_cell (cT 0) (nb, .inl (fun j => Int32.ofInt (f j)))) (vp_cell (cT 0) (na, .inl (fun j => Int32.ofInt (g j)))) (Int32.ofInt sp) (Int32.ofInt dp) (Int32.ofInt n) = vp_cell (cT 0) (na, .inl (fun j => Int32.ofInt (kcpy f g sp.toNat dp.toNat n.toNat j))) := by
    rw [show copied (vp_cell (cT 0) (nb, .inl (fun j => Int32.ofInt (f j)))) (vp_cell (cT 0) (na, .inl (fun j => Int32.ofInt (g j)))) (Int32.ofInt sp) (Int32.ofInt dp) (Int32.ofInt n) = _ from va_copied (fun z => Value.int z) (cT 0) (cT 0) (fun j => Int32.ofInt (f j)) (fun j => Int32.ofInt (g j)) (by rw [kn_clamp hv2, kn_clamp hv0]; omega)]
    rw [vp_cell_i, kn_clamp hv2, kn_clamp hv1, kn_clamp hv0]
    congr 2
    funext j
    simp only [va_cpy, kcpy]
    split <;> rfl
  rw [e1] at X' step
  have hlt : base + a < H.size := (Array.getElem?_eq_some_iff.mp hca).1
  generalize hcell : vp_cell (cT 0) (na, .inl (fun j => Int32.ofInt (kcpy f g sp.toNat dp.toNat n.toNat j))) = cell at X' step
  have hheap : ((T.setVm vm').setCell (base + a) cell).heap = H.setIfInBounds (base + a) cell := by rw [← hT]; rfl
  have oq : ∀ q : Nat, q ≠ base + a → (H.setIfInBounds (base + a) cell)[q]? = H[q]? := fun q hq => by simp [Array.getElem?_setIfInBounds, Ne.symm hq]
  have hz : (H.setIfInBounds (base + a) cell).size = H.size := by simp
  have hat : va_at D kCl (base + a, kce base ad cT (.inl (0, na, kcpy f g sp.toNat dp.toNat n.toNat))) (H.setIfInBounds (base + a) cell) := by
    show (H.setIfInBounds (base + a) cell)[base + a]? = some (vp_cell _ _)
    rw [show vp_cell (cT 0) (na, .inl (fun j => Int32.ofInt (kcpy f g sp.toNat dp.toNat n.toNat j))) = cell from hcell]
    simp [Array.getElem?_setIfInBounds, hlt]
  have hok2 : kEOK (.inl (0, na, kcpy f g sp.toNat dp.toNat n.toNat)) := ⟨hoka.1, fun j => by
    unfold kcpy
    split
    · exact hokb.2 _
    · exact hoka.2 _⟩
  have this := k _ ls (locs ++ ((vp_cell (cT 0) (nb, .inl (fun j => Int32.ofInt (f j)))).stretch (Int32.ofInt sp).toNatClampNeg (Int32.ofInt n).toNatClampNeg).zipIdx.map fun q => ⟨base + a, (Int32.ofInt dp).toNatClampNeg + q.2⟩) (hH.put ha hok2 hz oq hat) hL hst ⟨by rw [hz]; exact hS.1, fun q g1 g2 => by
      rw [oq q (fun e => g2 (by rw [e]; exact Nat.le_add_right _ _))]
      exact hS.2.1 q g1 g2, fun q hq => by
      rcases List.mem_append.mp hq with h | h
      · exact hS.2.2 q h
      · obtain ⟨z, -, hz⟩ := List.mem_map.mp h
        rw [← hz]
        exact Nat.le_add_right _ _⟩ hn hm
  rw [ho] at this
  obtain ⟨t, a1, b1⟩ := this _ hheap X'
  exact ⟨t, step t a1, b1⟩
theorem kz_ldcs {i j : Nat} (hC : kCx p s mid args meth cc c base ad cT D sc) (hd : decode (kaq c).2.1 (kofs c pc) = .ok (.ldc i, 2)) (ho : kofs c (pc + 1) = kofs c pc + 2) (hw : ((kaq c).2.2.2.2, i, j) ∈ kKS)
    (k : kZ p l e R s mid args below meth cc c base ad cT D n0 m0 Q (pc + 1) L (.inr (.inr (.inr j)) :: st) h) : kZ p l e R s mid args below meth cc c base ad cT D n0 m0 Q pc L st h := by
  intro H ls locs hH hL hst hS hn hm
  have this := k H ls locs hH hL (List.forall_mem_cons.mpr ⟨trivial, hst⟩) hS hn hm
  rw [ho] at this
  have h5 := hC.2.2.2.2.2.2.2.2.2.2.2.2.1.1
  have hz : vk_R (kon (kaq c).2.2.2.2) i (kstx.getD j "") (ad j) s := h5 ((kaq c).2.2.2.2, i, j) hw
  exact va_ldcS hC.1 hC.2.1 hC.2.2.2.2.2.1 hz hd this
theorem kz_ldcws {i j : Nat} (hC : kCx p s mid args meth cc c base ad cT D sc) (hd : decode (kaq c).2.1 (kofs c pc) = .ok (.ldc_w i, 3)) (ho : kofs c (pc + 1) = kofs c pc + 3) (hw : ((kaq c).2.2.2.2, i, j) ∈ kKS)
    (k : kZ p l e R s mid args below meth cc c base ad cT D n0 m0 Q (pc + 1) L (.inr (.inr (.inr j)) :: st) h) : kZ p l e R s mid args below meth cc c base ad cT D n0 m0 Q pc L st h := by
  intro H ls locs hH hL hst hS hn hm
  have this := k H ls locs hH hL (List.forall_mem_cons.mpr ⟨trivial, hst⟩) hS hn hm
  rw [ho] at this
  have h5 := hC.2.2.2.2.2.2.2.2.2.2.2.2.1.1
  have hz : vk_R (kon (kaq c).2.2.2.2) i (kstx.getD j "") (ad j) s := h5 ((kaq c).2.2.2.2, i, j) hw
  exact kk_ldcwS hC.1 hC.2.1 hC.2.2.2.2.2.1 hz hd this
/-! switches -/
theorem kz_tableOut {a d lo hi t : Int} {offs : Array Int} {len : Nat} (hC : kCx p s mid args meth cc c base ad cT D sc) (hd : decode (kaq c).2.1 (kofs c pc) = .ok (.tableswitch d lo hi offs, len)) (hr : a < lo ∨ hi < a) (ht : (kofs c pc : Int) + d = (kofs c t.toNat : Int))
    (k : kZ p l e R s mid args below meth cc c base ad cT D n0 m0 Q t.toNat L st h) : kZ p l e R s mid args below meth cc c base ad cT D n0 m0 Q pc L (.inl a :: st) h := by
  intro H ls locs hH hL hst hS hn hm
  obtain ⟨hv0, hst⟩ := List.forall_mem_cons.mp hst
  exact lv_tableOut hC.1 hC.2.1 hd (by rw [kn_toInt hv0]; exact hr) ht (k H ls locs hH hL hst hS hn hm)
theorem kz_tableIn {a d lo hi t off : Int} {offs : Array Int} {len : Nat} (hC : kCx p s mid args meth cc c base ad cT D sc) (hd : decode (kaq c).2.1 (kofs c pc) = .ok (.tableswitch d lo hi offs, len)) (hr : ¬ (a < lo ∨ hi < a)) (hof : offs[(a - lo).toNat]? = some off) (ht : (kofs c pc : Int) + off = (kofs c t.toNat : Int))
    (k : kZ p l e R s mid args below meth cc c base ad cT D n0 m0 Q t.toNat L st h) : kZ p l e R s mid args below meth cc c base ad cT D n0 m0 Q pc L (.inl a :: st) h := by
  intro H ls locs hH hL hst hS hn hm
  obtain ⟨hv0, hst⟩ := List.forall_mem_cons.mp hst
  exact lv_tableIn hC.1 hC.2.1 hd (by rw [kn_toInt hv0]; omega) (by rw [kn_toInt hv0]; omega) (by rw [kn_toInt hv0]; exact hof) ht (k H ls locs hH hL hst hS hn hm)
theorem kz_lookup {a d t off : Int} {ps : Array (Int × Int)} {len : Nat} (hC : kCx p s mid args meth cc c base ad cT D sc) (hd : decode (kaq c).2.1 (kofs c pc) = .ok (.lookupswitch d ps, len)) (hp : (ps.toList.zip (ps.toList.drop 1)).all (fun (a, next) => a.1 < next.1) = true) (hof : Op.lookupswitch.offset ps.toList d a = off) (ht : (kofs c pc : Int) + off = (kofs c t.toNat : Int))
    (k : kZ p l e R s mid args below meth cc c base ad cT D n0 m0 Q t.toNat L st h) : kZ p l e R s mid args below meth cc c base ad cT D n0 m0 Q pc L (.inl a :: st) h := by
  intro H ls locs hH hL hst hS hn hm
  obtain ⟨hv0, hst⟩ := List.forall_mem_cons.mp hst
  exact lv_lookup hC.1 hC.2.1 hd hp (by rw [kn_toInt hv0]; exact hof) ht (k H ls locs hH hL hst hS hn hm)
/-! returns -/
theorem kz_return (hC : kCx p s mid args meth cc c base ad cT D sc) (hd : decode (kaq c).2.1 (kofs c pc) = .ok (.return_, 1)) (hrt : (kaq c).2.2.2.1 = none) :
    kZ p l e R s mid args below meth cc c base ad cT D n0 m0 (MQ below (kQ base ad cT D none h) args s (h.1 - n0) (h.2.1 - m0) (kA base)) pc L [] h := by
  intro H ls locs hH hL hst hS hn hm
  exact W.vret hC.1 hC.2.1 (hC.2.2.2.1.trans hrt) (fun t ht _ => ⟨rfl, by rw [ht]; exact hH, hS.F ht, fun v hv => by cases hv⟩) (fun q hq => hS.2.2 q hq) hd hC.2.2.2.2.1
theorem kz_ireturn {x : Int} (hC : kCx p s mid args meth cc c base ad cT D sc) (hd : decode (kaq c).2.1 (kofs c pc) = .ok (.ireturn, 1)) (hrt : (kaq c).2.2.2.1 = some .int) :
    kZ p l e R s mid args below meth cc c base ad cT D n0 m0 (MQ below (kQ base ad cT D (some (.inl x)) h) args s (h.1 - n0) (h.2.1 - m0) (kA base)) pc L [.inl x] h := by
  intro H ls locs hH hL hst hS hn hm
  exact W.iret hC.1 hC.2.1 (hC.2.2.2.1.trans hrt) (fun t ht _ => ⟨rfl, by rw [ht]; exact hH, hS.F ht, fun v hv => by cases hv; exact hst _ List.mem_cons_self⟩) (fun q hq => hS.2.2 q hq) hd hC.2.2.2.2.1
theorem kz_zreturn {x : Int} (hC : kCx p s mid args meth cc c base ad cT D sc) (hd : decode (kaq c).2.1 (kofs c pc) = .ok (.ireturn, 1)) (hrt : (kaq c).2.2.2.1 = some .boolean) (hx : x = 0 ∨ x = 1) :
    kZ p l e R s mid args below meth cc c base ad cT D n0 m0 (MQ below (kQ base ad cT D (some (.inl x)) h) args s (h.1 - n0) (h.2.1 - m0) (kA base)) pc L [.inl x] h := by
  intro H ls locs hH hL hst hS hn hm
  refine W.zret hC.1 hC.2.1 (hC.2.2.2.1.trans hrt) (by rcases hx with rfl | rfl <;> rfl) (fun t ht _ => ⟨rfl, by rw [ht]; exact hH, hS.F ht, fun v hv => by cases hv; exact hst _ List.mem_cons_self⟩) (fun q hq => hS.2.2 q hq) hd hC.2.2.2.2.1
theorem kz_lreturn {x : Int} (hC : kCx p s mid args meth cc c base ad cT D sc) (hd : decode (kaq c).2.1 (kofs c pc) = .ok (.lreturn, 1)) (hrt : (kaq c).2.2.2.1 = some .long) :
    kZ p l e R s mid args below meth cc c base ad cT D n0 m0 (MQ below (kQ base ad cT D (some (.inr (.inl x))) h) args s (h.1 - n0) (h.2.1 - m0) (kA base)) pc L [.inr (.inl x)] h := by
  intro H ls locs hH hL hst hS hn hm
  exact W.lret hC.1 hC.2.1 (hC.2.2.2.1.trans hrt) (fun t ht _ => ⟨rfl, by rw [ht]; exact hH, hS.F ht, fun v hv => by cases hv; exact hst _ List.mem_cons_self⟩) (fun q hq => hS.2.2 q hq) hd hC.2.2.2.2.1
theorem kz_areturn {x : Option Nat ⊕ Nat} (hC : kCx p s mid args meth cc c base ad cT D sc) (hd : decode (kaq c).2.1 (kofs c pc) = .ok (.areturn, 1)) (hrt : (∃ n, (kaq c).2.2.2.1 = some (.object n)) ∨ ∃ t, (kaq c).2.2.2.1 = some (.array t)) :
    kZ p l e R s mid args below meth cc c base ad cT D n0 m0 (MQ below (kQ base ad cT D (some (.inr (.inr x))) h) args s (h.1 - n0) (h.2.1 - m0) (kA base)) pc L [.inr (.inr x)] h := by
  intro H ls locs hH hL hst hS hn hm
  have hv : kc base ad (.inr (.inr x)) = .null ∨ ∃ a, kc base ad (.inr (.inr x)) = .ref a := by
    rcases x with x | x
    · rcases x with _ | x
      · exact Or.inl rfl
      · exact Or.inr ⟨_, rfl⟩
    · exact Or.inr ⟨_, rfl⟩
  rcases hrt with ⟨n, hrt⟩ | ⟨n, hrt⟩
  · exact W.aret hC.1 hC.2.1 (hC.2.2.2.1.trans hrt) (Or.inl ⟨_, rfl⟩) hv (fun t ht _ => ⟨rfl, by rw [ht]; exact hH, hS.F ht, fun v hv => by cases hv; exact trivial⟩) (fun q hq => hS.2.2 q hq) hd hC.2.2.2.2.1
  · exact W.aret hC.1 hC.2.1 (hC.2.2.2.1.trans hrt) (Or.inr ⟨_, rfl⟩) hv (fun t ht _ => ⟨rfl, by rw [ht]; exact hH, hS.F ht, fun v hv => by cases hv; exact trivial⟩) (fun q hq => hS.2.2 q hq) hd hC.2.2.2.2.1
end KS
