theorem kno {ins : Instr} (h : (none : Option Instr) = some ins) : False := by cases h
theorem kl1 {raw : Instr} {len k : Nat} (h : klen raw = 0 ∨ klen raw = len) (hk : klen raw = k + 1) : len = k + 1 := by omega
theorem klk_mem {α : Type} {l : List (Nat × Nat × α)} {o i : Nat} {v : α} (h : klk l o i = some v) : (o, i, v) ∈ l := by
  unfold klk at h
  obtain ⟨q, hq, rfl⟩ := Option.map_eq_some_iff.mp h
  have h1 := List.find?_some hq
  have h2 := List.mem_of_find?_eq_some hq
  simp only [Bool.and_eq_true, beq_iff_eq] at h1
  obtain ⟨h3, h4⟩ := h1
  subst h3
  subst h4
  exact h2
theorem kOi : Cond.instanceMethod Lib.objectInit ∈ kG ∧ Cond.code Lib.objectInit ⟨#[0xb1]⟩ 1 none ∈ kG := ⟨kiG1 (i := 29) rfl rfl, kiG1 (i := 30) rfl rfl⟩
theorem kOn : Cond.native arraycopyName ∈ kG ∧ Cond.static arraycopyName ∈ kG ∧ Cond.initialized "java/lang/System" ∈ kG := ⟨kiG3 (i := 147) rfl rfl, kiG3 (i := 146) rfl rfl, kiG1 (i := 21) rfl rfl⟩
theorem kfinq {c pc q : Nat} (hc : c < 295) (hget : (kmq c).1[pc]? = some (.putfield q)) : (kTf q).2.2.2 = true → (kaq c).1.name = "<init>" ∧ (kTf q).1 = kon (kaq c).2.2.2.2 := by
  intro hf
  have h1 := List.all_eq_true.mp kfin_ok c (List.mem_range.mpr hc)
  have h2 := List.all_eq_true.mp h1 _ (List.mem_of_getElem? hget)
  have h3 : (!((kTf q).2.2.2) || (decide ((kaq c).1.name = "<init>") && decide ((kTf q).1 = kon (kaq c).2.2.2.2))) = true := h2
  rw [hf] at h3
  simpa using h3
/-- what is owed of the two calls on text constants -/
def kStrOK (l : Launch) (base : Nat) (ad : Nat → Nat) (cT : Nat → ClassId) (D : va_G) (sc : List Int) : Prop :=
  (∀ (p : Program) (e : Env) (R : Room) (s : State) (mid : MethodId) (args : Array Value) (below : List Frame) (meth : Method) (cc : Code) (c n0 m0 : Nat) (Q : State → Prop) (pc : Nat) (L : kLs) (st : List kV) (h : kH) (j i : Nat), kCx p s mid args meth cc c base ad cT D sc → decode (kaq c).2.1 (kofs c pc) = .ok (.invokevirtual i, 3) → kofs c (pc + 1) = kofs c pc + 3 → Cond.methodLink (kon (kaq c).2.2.2.2) i (kyn 1002) ∈ kG → 8 ≤ R.frames → 640 ≤ R.locals → h.1 - n0 ≤ R.cells → h.2.1 - m0 ≤ R.slots → j < 30 → kwts st ≤ 8 →
    kZ p l e R s mid args below meth cc c base ad cT D n0 m0 Q (pc + 1) L (.inl (ksx sc j).length :: st) h → kZ p l e R s mid args below meth cc c base ad cT D n0 m0 Q pc L (.inr (.inr (.inr j)) :: st) h) ∧
  (∀ (p : Program) (e : Env) (R : Room) (s : State) (mid : MethodId) (args : Array Value) (below : List Frame) (meth : Method) (cc : Code) (c n0 m0 : Nat) (Q : State → Prop) (pc : Nat) (L : kLs) (st : List kV) (h : kH) (k : Int) (j i : Nat), kCx p s mid args meth cc c base ad cT D sc → decode (kaq c).2.1 (kofs c pc) = .ok (.invokevirtual i, 3) → kofs c (pc + 1) = kofs c pc + 3 → Cond.methodLink (kon (kaq c).2.2.2.2) i (kyn 1003) ∈ kG → 8 ≤ R.frames → 640 ≤ R.locals → h.1 - n0 ≤ R.cells → h.2.1 - m0 ≤ R.slots → (j < 30 ∧ 0 ≤ k ∧ k < (ksx sc j).length ∧ kwts st ≤ 8) →
    kZ p l e R s mid args below meth cc c base ad cT D n0 m0 Q (pc + 1) L (.inl ((ksx sc j).getD k.toNat 0) :: st) h → kZ p l e R s mid args below meth cc c base ad cT D n0 m0 Q pc L (.inl k :: .inr (.inr (.inr j)) :: st) h)
theorem kyn_lt {c : Nat} (h : c < 1000) : kyn c = (kaq c).1 := by
  unfold kyn
  rw [if_neg (by omega), if_neg (by omega), if_neg (by omega), if_neg (by omega)]
  rfl
theorem kmapM {α β : Type} {f : α → Option β} : ∀ {l : List α} {r : List β}, l.mapM f = some r → ∀ (i : Nat) (a : α), l[i]? = some a → ∃ b, r[i]? = some b ∧ f a = some b
  | [], r, h, i, a, ha => by simp at ha
  | x :: l, r, h, i, a, ha => by
    rw [List.mapM_cons] at h
    cases hx : f x with
    | none => rw [hx] at h; cases h
    | some y =>
      rw [hx] at h
      cases hl : l.mapM f with
      | none => rw [hl] at h; cases h
      | some r2 =>
        rw [hl] at h
        obtain rfl : y :: r2 = r := Option.some.inj h
        cases i with
        | zero =>
          rw [List.getElem?_cons_zero] at ha
          cases ha
          exact ⟨y, rfl, hx⟩
        | succ i =>
          rw [List.getElem?_cons_succ] at ha
          rw [List.getElem?_cons_succ]
          exact kmapM hl i a ha
theorem kmapM' {α β : Type} {f : α → Option β} : ∀ {l : List α} {r : List β}, l.mapM f = some r → ∀ (i : Nat) (b : β), r[i]? = some b → ∃ a, l[i]? = some a ∧ f a = some b
  | [], r, h, i, b, hb => by
    obtain rfl : [] = r := Option.some.inj h
    simp at hb
  | x :: l, r, h, i, b, hb => by
    rw [List.mapM_cons] at h
    cases hx : f x with
    | none => rw [hx] at h; cases h
    | some y =>
      rw [hx] at h
      cases hl : l.mapM f with
      | none => rw [hl] at h; cases h
      | some r2 =>
        rw [hl] at h
        obtain rfl : y :: r2 = r := Option.some.inj h
        cases i with
        | zero =>
          rw [List.getElem?_cons_zero] at hb
          cases hb
          exact ⟨x, rfl, hx⟩
        | succ i =>
          rw [List.getElem?_cons_succ] at hb
          rw [List.getElem?_cons_succ]
          exact kmapM' hl i b hb
theorem klook_off {g : Int → Option Int} {d d' x : Int} (hd : g d = some d') : ∀ {ps l : List (Int × Int)}, ps.mapM (fun q => (g q.2).map (fun t => (q.1, t))) = some l → g (Op.lookupswitch.offset ps d x) = some (Op.lookupswitch.offset l d' x)
  | [], l, h => by
    obtain rfl : [] = l := Option.some.inj h
    simpa [Op.lookupswitch.offset] using hd
  | q :: ps, l, h => by
    rw [List.mapM_cons] at h
    cases hx : g q.2 with
    | none => rw [hx] at h; cases h
    | some y =>
      rw [hx] at h
      cases hl : ps.mapM (fun q => (g q.2).map (fun t => (q.1, t))) with
      | none => rw [hl] at h; cases h
      | some r2 =>
        rw [hl] at h
        obtain rfl : (q.1, y) :: r2 = l := Option.some.inj h
        obtain ⟨a, b⟩ := q
        rw [Op.lookupswitch.offset_cons, Op.lookupswitch.offset_cons]
        by_cases hq : a = x
        · rw [if_pos hq, if_pos hq]; exact hx
        · rw [if_neg hq, if_neg hq]; exact klook_off hd hl
set_option maxHeartbeats 40000000 in
theorem kstep (l : Launch) (base : Nat) (ad : Nat → Nat) (cT : Nat → ClassId) (D : va_G) (sc : List Int) (hstr : kStrOK l base ad cT D sc) {c pc : Nat} {ins : Instr} {L L' : kLs} {st st' : List kV} {h h1 : kH} {pc' : Nat} (hc : c < 295) (hget : (kmq c).1[pc]? = some ins)
    (hk : kst kfk (ksx sc) ins pc L st h = some (pc', L', st', h1)) : (h.1 ≤ h1.1 ∧ h.2.1 ≤ h1.2.1) ∧ ∀ (p : Program) (e : Env) (R : Room) (s : State) (mid : MethodId) (args : Array Value) (below : List Frame) (meth : Method) (cc : Code) (n0 m0 : Nat) (Q : State → Prop), kCx p s mid args meth cc c base ad cT D sc → 8 ≤ R.frames → 640 ≤ R.locals → h1.1 - n0 ≤ R.cells → h1.2.1 - m0 ≤ R.slots →
      kZ p l e R s mid args below meth cc c base ad cT D n0 m0 Q pc' L' st' h1 → kZ p l e R s mid args below meth cc c base ad cT D n0 m0 Q pc L st h := by
  obtain ⟨raw, len, hd, hres, ho, hlen⟩ := kcode hc hget
  cases raw
  case iadd =>
    obtain rfl := kl1 (k := 0) hlen rfl
    obtain rfl : Instr.iadd = ins := Option.some.inj hres
    unfold kst at hk
    dsimp only at hk
    split at hk
    · cases hk
      exact ⟨⟨Nat.le_refl _, Nat.le_refl _⟩, fun p e R s mid args below meth cc n0 m0 Q hC hf hl hc1 hs1 hz => kz_iadd hC hd ho hz⟩
    · cases hk
  case isub =>
    obtain rfl := kl1 (k := 0) hlen rfl
    obtain rfl : Instr.isub = ins := Option.some.inj hres
    unfold kst at hk
    dsimp only at hk
    split at hk
    · cases hk
      exact ⟨⟨Nat.le_refl _, Nat.le_refl _⟩, fun p e R s mid args below meth cc n0 m0 Q hC hf hl hc1 hs1 hz => kz_isub hC hd ho hz⟩
    · cases hk
  case imul =>
    obtain rfl := kl1 (k := 0) hlen rfl
    obtain rfl : Instr.imul = ins := Option.some.inj hres
    unfold kst at hk
    dsimp only at hk
    split at hk
    · cases hk
      exact ⟨⟨Nat.le_refl _, Nat.le_refl _⟩, fun p e R s mid args below meth cc n0 m0 Q hC hf hl hc1 hs1 hz => kz_imul hC hd ho hz⟩
    · cases hk
  case iand =>
    obtain rfl := kl1 (k := 0) hlen rfl
    obtain rfl : Instr.iand = ins := Option.some.inj hres
    unfold kst at hk
    dsimp only at hk
    split at hk
    · cases hk
      exact ⟨⟨Nat.le_refl _, Nat.le_refl _⟩, fun p e R s mid args below meth cc n0 m0 Q hC hf hl hc1 hs1 hz => kz_iand hC hd ho hz⟩
    · cases hk
  case ior =>
    obtain rfl := kl1 (k := 0) hlen rfl
    obtain rfl : Instr.ior = ins := Option.some.inj hres
    unfold kst at hk
    dsimp only at hk
    split at hk
    · cases hk
      exact ⟨⟨Nat.le_refl _, Nat.le_refl _⟩, fun p e R s mid args below meth cc n0 m0 Q hC hf hl hc1 hs1 hz => kz_ior hC hd ho hz⟩
    · cases hk
  case ixor =>
    obtain rfl := kl1 (k := 0) hlen rfl
    obtain rfl : Instr.ixor = ins := Option.some.inj hres
    unfold kst at hk
    dsimp only at hk
    split at hk
    · cases hk
      exact ⟨⟨Nat.le_refl _, Nat.le_refl _⟩, fun p e R s mid args below meth cc n0 m0 Q hC hf hl hc1 hs1 hz => kz_ixor hC hd ho hz⟩
    · cases hk
  case ineg =>
    obtain rfl := kl1 (k := 0) hlen rfl
    obtain rfl : Instr.ineg = ins := Option.some.inj hres
    unfold kst at hk
    dsimp only at hk
    split at hk
    · cases hk
      exact ⟨⟨Nat.le_refl _, Nat.le_refl _⟩, fun p e R s mid args below meth cc n0 m0 Q hC hf hl hc1 hs1 hz => kz_ineg hC hd ho hz⟩
    · cases hk
  case ishl =>
    obtain rfl := kl1 (k := 0) hlen rfl
    obtain rfl : Instr.ishl = ins := Option.some.inj hres
    unfold kst at hk
    dsimp only at hk
    split at hk
    · cases hk
      exact ⟨⟨Nat.le_refl _, Nat.le_refl _⟩, fun p e R s mid args below meth cc n0 m0 Q hC hf hl hc1 hs1 hz => kz_ishl hC hd ho hz⟩
    · cases hk
  case ishr =>
    obtain rfl := kl1 (k := 0) hlen rfl
    obtain rfl : Instr.ishr = ins := Option.some.inj hres
    unfold kst at hk
    dsimp only at hk
    split at hk
    · cases hk
      exact ⟨⟨Nat.le_refl _, Nat.le_refl _⟩, fun p e R s mid args below meth cc n0 m0 Q hC hf hl hc1 hs1 hz => kz_ishr hC hd ho hz⟩
    · cases hk
  case iushr =>
    obtain rfl := kl1 (k := 0) hlen rfl
    obtain rfl : Instr.iushr = ins := Option.some.inj hres
    unfold kst at hk
    dsimp only at hk
    split at hk
    · cases hk
      exact ⟨⟨Nat.le_refl _, Nat.le_refl _⟩, fun p e R s mid args below meth cc n0 m0 Q hC hf hl hc1 hs1 hz => kz_iushr hC hd ho hz⟩
    · cases hk
  case ladd =>
    obtain rfl := kl1 (k := 0) hlen rfl
    obtain rfl : Instr.ladd = ins := Option.some.inj hres
    unfold kst at hk
    dsimp only at hk
    split at hk
    · cases hk
      exact ⟨⟨Nat.le_refl _, Nat.le_refl _⟩, fun p e R s mid args below meth cc n0 m0 Q hC hf hl hc1 hs1 hz => kz_ladd hC hd ho hz⟩
    · cases hk
  case lsub =>
    obtain rfl := kl1 (k := 0) hlen rfl
    obtain rfl : Instr.lsub = ins := Option.some.inj hres
    unfold kst at hk
    dsimp only at hk
    split at hk
    · cases hk
      exact ⟨⟨Nat.le_refl _, Nat.le_refl _⟩, fun p e R s mid args below meth cc n0 m0 Q hC hf hl hc1 hs1 hz => kz_lsub hC hd ho hz⟩
    · cases hk
  case lmul =>
    obtain rfl := kl1 (k := 0) hlen rfl
    obtain rfl : Instr.lmul = ins := Option.some.inj hres
    unfold kst at hk
    dsimp only at hk
    split at hk
    · cases hk
      exact ⟨⟨Nat.le_refl _, Nat.le_refl _⟩, fun p e R s mid args below meth cc n0 m0 Q hC hf hl hc1 hs1 hz => kz_lmul hC hd ho hz⟩
    · cases hk
  case land =>
    obtain rfl := kl1 (k := 0) hlen rfl
    obtain rfl : Instr.land = ins := Option.some.inj hres
    unfold kst at hk
    dsimp only at hk
    split at hk
    · cases hk
      exact ⟨⟨Nat.le_refl _, Nat.le_refl _⟩, fun p e R s mid args below meth cc n0 m0 Q hC hf hl hc1 hs1 hz => kz_land hC hd ho hz⟩
    · cases hk
  case lor =>
    obtain rfl := kl1 (k := 0) hlen rfl
    obtain rfl : Instr.lor = ins := Option.some.inj hres
    unfold kst at hk
    dsimp only at hk
    split at hk
    · cases hk
      exact ⟨⟨Nat.le_refl _, Nat.le_refl _⟩, fun p e R s mid args below meth cc n0 m0 Q hC hf hl hc1 hs1 hz => kz_lor hC hd ho hz⟩
    · cases hk
  case lxor =>
    obtain rfl := kl1 (k := 0) hlen rfl
    obtain rfl : Instr.lxor = ins := Option.some.inj hres
    unfold kst at hk
    dsimp only at hk
    split at hk
    · cases hk
      exact ⟨⟨Nat.le_refl _, Nat.le_refl _⟩, fun p e R s mid args below meth cc n0 m0 Q hC hf hl hc1 hs1 hz => kz_lxor hC hd ho hz⟩
    · cases hk
  case lneg =>
    obtain rfl := kl1 (k := 0) hlen rfl
    obtain rfl : Instr.lneg = ins := Option.some.inj hres
    unfold kst at hk
    dsimp only at hk
    split at hk
    · cases hk
      exact ⟨⟨Nat.le_refl _, Nat.le_refl _⟩, fun p e R s mid args below meth cc n0 m0 Q hC hf hl hc1 hs1 hz => kz_lneg hC hd ho hz⟩
    · cases hk
  case lshl =>
    obtain rfl := kl1 (k := 0) hlen rfl
    obtain rfl : Instr.lshl = ins := Option.some.inj hres
    unfold kst at hk
    dsimp only at hk
    split at hk
    · cases hk
      exact ⟨⟨Nat.le_refl _, Nat.le_refl _⟩, fun p e R s mid args below meth cc n0 m0 Q hC hf hl hc1 hs1 hz => kz_lshl hC hd ho hz⟩
    · cases hk
  case lshr =>
    obtain rfl := kl1 (k := 0) hlen rfl
    obtain rfl : Instr.lshr = ins := Option.some.inj hres
    unfold kst at hk
    dsimp only at hk
    split at hk
    · cases hk
      exact ⟨⟨Nat.le_refl _, Nat.le_refl _⟩, fun p e R s mid args below meth cc n0 m0 Q hC hf hl hc1 hs1 hz => kz_lshr hC hd ho hz⟩
    · cases hk
  case lushr =>
    obtain rfl := kl1 (k := 0) hlen rfl
    obtain rfl : Instr.lushr = ins := Option.some.inj hres
    unfold kst at hk
    dsimp only at hk
    split at hk
    · cases hk
      exact ⟨⟨Nat.le_refl _, Nat.le_refl _⟩, fun p e R s mid args below meth cc n0 m0 Q hC hf hl hc1 hs1 hz => kz_lushr hC hd ho hz⟩
    · cases hk
  case i2l =>
    obtain rfl := kl1 (k := 0) hlen rfl
    obtain rfl : Instr.i2l = ins := Option.some.inj hres
    unfold kst at hk
    dsimp only at hk
    split at hk
    · cases hk
      exact ⟨⟨Nat.le_refl _, Nat.le_refl _⟩, fun p e R s mid args below meth cc n0 m0 Q hC hf hl hc1 hs1 hz => kz_i2l hC hd ho hz⟩
    · cases hk
  case l2i =>
    obtain rfl := kl1 (k := 0) hlen rfl
    obtain rfl : Instr.l2i = ins := Option.some.inj hres
    unfold kst at hk
    dsimp only at hk
    split at hk
    · cases hk
      exact ⟨⟨Nat.le_refl _, Nat.le_refl _⟩, fun p e R s mid args below meth cc n0 m0 Q hC hf hl hc1 hs1 hz => kz_l2i hC hd ho hz⟩
    · cases hk
  case i2b =>
    obtain rfl := kl1 (k := 0) hlen rfl
    obtain rfl : Instr.i2b = ins := Option.some.inj hres
    unfold kst at hk
    dsimp only at hk
    split at hk
    · cases hk
      exact ⟨⟨Nat.le_refl _, Nat.le_refl _⟩, fun p e R s mid args below meth cc n0 m0 Q hC hf hl hc1 hs1 hz => kz_i2b hC hd ho hz⟩
    · cases hk
  case i2s =>
    obtain rfl := kl1 (k := 0) hlen rfl
    obtain rfl : Instr.i2s = ins := Option.some.inj hres
    unfold kst at hk
    dsimp only at hk
    split at hk
    · cases hk
      exact ⟨⟨Nat.le_refl _, Nat.le_refl _⟩, fun p e R s mid args below meth cc n0 m0 Q hC hf hl hc1 hs1 hz => kz_i2s hC hd ho hz⟩
    · cases hk
  case lcmp =>
    obtain rfl := kl1 (k := 0) hlen rfl
    obtain rfl : Instr.lcmp = ins := Option.some.inj hres
    unfold kst at hk
    dsimp only at hk
    split at hk
    · cases hk
      exact ⟨⟨Nat.le_refl _, Nat.le_refl _⟩, fun p e R s mid args below meth cc n0 m0 Q hC hf hl hc1 hs1 hz => kz_lcmp hC hd ho hz⟩
    · cases hk
  case idiv =>
    obtain rfl := kl1 (k := 0) hlen rfl
    obtain rfl : Instr.idiv = ins := Option.some.inj hres
    unfold kst at hk
    dsimp only at hk
    split at hk
    · split at hk
      · cases hk
      · rename_i hb0
        cases hk
        exact ⟨⟨Nat.le_refl _, Nat.le_refl _⟩, fun p e R s mid args below meth cc n0 m0 Q hC hf hl hc1 hs1 hz => kz_idiv hC hd ho hb0 hz⟩
    · cases hk
  case irem =>
    obtain rfl := kl1 (k := 0) hlen rfl
    obtain rfl : Instr.irem = ins := Option.some.inj hres
    unfold kst at hk
    dsimp only at hk
    split at hk
    · split at hk
      · cases hk
      · rename_i hb0
        cases hk
        exact ⟨⟨Nat.le_refl _, Nat.le_refl _⟩, fun p e R s mid args below meth cc n0 m0 Q hC hf hl hc1 hs1 hz => kz_irem hC hd ho hb0 hz⟩
    · cases hk
  case ldiv =>
    obtain rfl := kl1 (k := 0) hlen rfl
    obtain rfl : Instr.ldiv = ins := Option.some.inj hres
    unfold kst at hk
    dsimp only at hk
    split at hk
    · split at hk
      · cases hk
      · rename_i hb0
        cases hk
        exact ⟨⟨Nat.le_refl _, Nat.le_refl _⟩, fun p e R s mid args below meth cc n0 m0 Q hC hf hl hc1 hs1 hz => kz_ldiv hC hd ho hb0 hz⟩
    · cases hk
  case lrem =>
    obtain rfl := kl1 (k := 0) hlen rfl
    obtain rfl : Instr.lrem = ins := Option.some.inj hres
    unfold kst at hk
    dsimp only at hk
    split at hk
    · split at hk
      · cases hk
      · rename_i hb0
        cases hk
        exact ⟨⟨Nat.le_refl _, Nat.le_refl _⟩, fun p e R s mid args below meth cc n0 m0 Q hC hf hl hc1 hs1 hz => kz_lrem hC hd ho hb0 hz⟩
    · cases hk
  case dup =>
    obtain rfl := kl1 (k := 0) hlen rfl
    obtain rfl : Instr.dup = ins := Option.some.inj hres
    unfold kst at hk
    dsimp only at hk
    split at hk
    · split at hk
      · cases hk
      · rename_i hb0
        cases hk
        exact ⟨⟨Nat.le_refl _, Nat.le_refl _⟩, fun p e R s mid args below meth cc n0 m0 Q hC hf hl hc1 hs1 hz => kz_dup hC hd ho hb0 hz⟩
    · cases hk
  case pop =>
    obtain rfl := kl1 (k := 0) hlen rfl
    obtain rfl : Instr.pop = ins := Option.some.inj hres
    unfold kst at hk
    dsimp only at hk
    split at hk
    · split at hk
      · cases hk
      · rename_i hb0
        cases hk
        exact ⟨⟨Nat.le_refl _, Nat.le_refl _⟩, fun p e R s mid args below meth cc n0 m0 Q hC hf hl hc1 hs1 hz => kz_pop hC hd ho hb0 hz⟩
    · cases hk
  case dup2 =>
    obtain rfl := kl1 (k := 0) hlen rfl
    obtain rfl : Instr.dup2 = ins := Option.some.inj hres
    unfold kst at hk
    dsimp only at hk
    split at hk
    · split at hk
      · cases hk
      · rename_i hb0
        cases hk
        exact ⟨⟨Nat.le_refl _, Nat.le_refl _⟩, fun p e R s mid args below meth cc n0 m0 Q hC hf hl hc1 hs1 hz => kz_dup2 hC hd ho hb0 hz⟩
    · cases hk
  case iconst n =>
    obtain rfl := kl1 (k := 0) hlen rfl
    change (if -1 ≤ n ∧ n ≤ 5 then some (Instr.iconst n) else none) = some ins at hres
    split at hres
    · rename_i hr
      obtain rfl : Instr.iconst n = ins := Option.some.inj hres
      unfold kst at hk
      dsimp only at hk
      cases hk
      exact ⟨⟨Nat.le_refl _, Nat.le_refl _⟩, fun p e R s mid args below meth cc n0 m0 Q hC hf hl hc1 hs1 hz => kz_iconst hC hd ho hr hz⟩
    · cases hres
  case bipush n =>
    obtain rfl := kl1 (k := 1) hlen rfl
    change (if -128 ≤ n ∧ n ≤ 127 then some (Instr.iconst n) else none) = some ins at hres
    split at hres
    · rename_i hr
      obtain rfl : Instr.iconst n = ins := Option.some.inj hres
      unfold kst at hk
      dsimp only at hk
      cases hk
      exact ⟨⟨Nat.le_refl _, Nat.le_refl _⟩, fun p e R s mid args below meth cc n0 m0 Q hC hf hl hc1 hs1 hz => kz_bipush hC hd ho hr hz⟩
    · cases hres
  case sipush n =>
    obtain rfl := kl1 (k := 2) hlen rfl
    change (if -32768 ≤ n ∧ n ≤ 32767 then some (Instr.iconst n) else none) = some ins at hres
    split at hres
    · rename_i hr
      obtain rfl : Instr.iconst n = ins := Option.some.inj hres
      unfold kst at hk
      dsimp only at hk
      cases hk
      exact ⟨⟨Nat.le_refl _, Nat.le_refl _⟩, fun p e R s mid args below meth cc n0 m0 Q hC hf hl hc1 hs1 hz => kz_sipush hC hd ho hr hz⟩
    · cases hres
  case lconst n =>
    obtain rfl := kl1 (k := 0) hlen rfl
    obtain rfl : Instr.sipush n.val = ins := Option.some.inj hres
    unfold kst at hk
    dsimp only at hk
    cases hk
    exact ⟨⟨Nat.le_refl _, Nat.le_refl _⟩, fun p e R s mid args below meth cc n0 m0 Q hC hf hl hc1 hs1 hz => kz_lconst hC hd ho hz⟩
  case ldc i =>
    obtain rfl := kl1 (k := 1) hlen rfl
    change (match klk kKI (kaq c).2.2.2.2 i with | some v => if -2147483648 ≤ v ∧ v ≤ 2147483647 then some (Instr.iconst v) else none | none => (klk kKS (kaq c).2.2.2.2 i).map Instr.ldc) = some ins at hres
    split at hres
    · rename_i v hv
      split at hres
      · rename_i hr
        obtain rfl : Instr.iconst v = ins := Option.some.inj hres
        unfold kst at hk
        dsimp only at hk
        cases hk
        exact ⟨⟨Nat.le_refl _, Nat.le_refl _⟩, fun p e R s mid args below meth cc n0 m0 Q hC hf hl hc1 hs1 hz => kz_ldci hC hd ho hr (kKIw _ (klk_mem hv)) hz⟩
      · cases hres
    · obtain ⟨j, hj, rfl⟩ := Option.map_eq_some_iff.mp hres
      unfold kst at hk
      dsimp only at hk
      cases hk
      exact ⟨⟨Nat.le_refl _, Nat.le_refl _⟩, fun p e R s mid args below meth cc n0 m0 Q hC hf hl hc1 hs1 hz => kz_ldcs hC hd ho (klk_mem hj) hz⟩
  case ldc_w i =>
    obtain rfl := kl1 (k := 2) hlen rfl
    change (match klk kKI (kaq c).2.2.2.2 i with | some v => if -2147483648 ≤ v ∧ v ≤ 2147483647 then some (Instr.iconst v) else none | none => (klk kKS (kaq c).2.2.2.2 i).map Instr.ldc) = some ins at hres
    split at hres
    · rename_i v hv
      split at hres
      · rename_i hr
        obtain rfl : Instr.iconst v = ins := Option.some.inj hres
        unfold kst at hk
        dsimp only at hk
        cases hk
        exact ⟨⟨Nat.le_refl _, Nat.le_refl _⟩, fun p e R s mid args below meth cc n0 m0 Q hC hf hl hc1 hs1 hz => kz_ldcwi hC hd ho hr (kKIw _ (klk_mem hv)) hz⟩
      · cases hres
    · obtain ⟨j, hj, rfl⟩ := Option.map_eq_some_iff.mp hres
      unfold kst at hk
      dsimp only at hk
      cases hk
      exact ⟨⟨Nat.le_refl _, Nat.le_refl _⟩, fun p e R s mid args below meth cc n0 m0 Q hC hf hl hc1 hs1 hz => kz_ldcws hC hd ho (klk_mem hj) hz⟩
  case ldc2_w i =>
    obtain rfl := kl1 (k := 2) hlen rfl
    change (match klk kKL (kaq c).2.2.2.2 i with | some v => if -9223372036854775808 ≤ v ∧ v ≤ 9223372036854775807 then some (Instr.sipush v) else none | none => none) = some ins at hres
    split at hres
    · rename_i v hv
      split at hres
      · rename_i hr
        obtain rfl : Instr.sipush v = ins := Option.some.inj hres
        unfold kst at hk
        dsimp only at hk
        cases hk
        exact ⟨⟨Nat.le_refl _, Nat.le_refl _⟩, fun p e R s mid args below meth cc n0 m0 Q hC hf hl hc1 hs1 hz => kz_ldc2 hC hd ho hr (kKLw _ (klk_mem hv)) hz⟩
      · cases hres
    · cases hres
  case aconst_null =>
    obtain rfl := kl1 (k := 0) hlen rfl
    obtain rfl : Instr.aconst_null = ins := Option.some.inj hres
    unfold kst at hk
    dsimp only at hk
    cases hk
    exact ⟨⟨Nat.le_refl _, Nat.le_refl _⟩, fun p e R s mid args below meth cc n0 m0 Q hC hf hl hc1 hs1 hz => kz_aconst_null hC hd ho hz⟩
  case iload i =>
    obtain rfl := kl1 (k := 1) hlen rfl
    obtain rfl : Instr.iload i = ins := Option.some.inj hres
    unfold kst at hk
    dsimp only at hk
    split at hk
    · rename_i hx
      cases hk
      exact ⟨⟨Nat.le_refl _, Nat.le_refl _⟩, fun p e R s mid args below meth cc n0 m0 Q hC hf hl hc1 hs1 hz => kz_iload hC hd ho hx hz⟩
    · cases hk
  case iload_n i =>
    obtain rfl := kl1 (k := 0) hlen rfl
    obtain rfl : Instr.iload i.val = ins := Option.some.inj hres
    unfold kst at hk
    dsimp only at hk
    split at hk
    · rename_i hx
      cases hk
      exact ⟨⟨Nat.le_refl _, Nat.le_refl _⟩, fun p e R s mid args below meth cc n0 m0 Q hC hf hl hc1 hs1 hz => kz_iload_n hC hd ho hx hz⟩
    · cases hk
  case lload i =>
    obtain rfl := kl1 (k := 1) hlen rfl
    obtain rfl : Instr.lload i = ins := Option.some.inj hres
    unfold kst at hk
    dsimp only at hk
    split at hk
    · rename_i hx
      cases hk
      exact ⟨⟨Nat.le_refl _, Nat.le_refl _⟩, fun p e R s mid args below meth cc n0 m0 Q hC hf hl hc1 hs1 hz => kz_lload hC hd ho hx hz⟩
    · cases hk
  case lload_n i =>
    obtain rfl := kl1 (k := 0) hlen rfl
    obtain rfl : Instr.lload i.val = ins := Option.some.inj hres
    unfold kst at hk
    dsimp only at hk
    split at hk
    · rename_i hx
      cases hk
      exact ⟨⟨Nat.le_refl _, Nat.le_refl _⟩, fun p e R s mid args below meth cc n0 m0 Q hC hf hl hc1 hs1 hz => kz_lload_n hC hd ho hx hz⟩
    · cases hk
  case aload i =>
    obtain rfl := kl1 (k := 1) hlen rfl
    obtain rfl : Instr.aload i = ins := Option.some.inj hres
    unfold kst at hk
    dsimp only at hk
    split at hk
    · rename_i hx
      cases hk
      exact ⟨⟨Nat.le_refl _, Nat.le_refl _⟩, fun p e R s mid args below meth cc n0 m0 Q hC hf hl hc1 hs1 hz => kz_aload hC hd ho hx hz⟩
    · cases hk
  case aload_n i =>
    obtain rfl := kl1 (k := 0) hlen rfl
    obtain rfl : Instr.aload i.val = ins := Option.some.inj hres
    unfold kst at hk
    dsimp only at hk
    split at hk
    · rename_i hx
      cases hk
      exact ⟨⟨Nat.le_refl _, Nat.le_refl _⟩, fun p e R s mid args below meth cc n0 m0 Q hC hf hl hc1 hs1 hz => kz_aload_n hC hd ho hx hz⟩
    · cases hk
  case istore i =>
    obtain rfl := kl1 (k := 1) hlen rfl
    obtain rfl : Instr.istore i = ins := Option.some.inj hres
    unfold kst at hk
    dsimp only at hk
    split at hk
    · split at hk
      · rename_i hx
        cases hk
        exact ⟨⟨Nat.le_refl _, Nat.le_refl _⟩, fun p e R s mid args below meth cc n0 m0 Q hC hf hl hc1 hs1 hz => kz_istore hC hd ho hx hz⟩
      · cases hk
    · cases hk
  case istore_n i =>
    obtain rfl := kl1 (k := 0) hlen rfl
    obtain rfl : Instr.istore i.val = ins := Option.some.inj hres
    unfold kst at hk
    dsimp only at hk
    split at hk
    · split at hk
      · rename_i hx
        cases hk
        exact ⟨⟨Nat.le_refl _, Nat.le_refl _⟩, fun p e R s mid args below meth cc n0 m0 Q hC hf hl hc1 hs1 hz => kz_istore_n hC hd ho hx hz⟩
      · cases hk
    · cases hk
  case lstore i =>
    obtain rfl := kl1 (k := 1) hlen rfl
    obtain rfl : Instr.lstore i = ins := Option.some.inj hres
    unfold kst at hk
    dsimp only at hk
    split at hk
    · split at hk
      · rename_i hx
        cases hk
        exact ⟨⟨Nat.le_refl _, Nat.le_refl _⟩, fun p e R s mid args below meth cc n0 m0 Q hC hf hl hc1 hs1 hz => kz_lstore hC hd ho hx hz⟩
      · cases hk
    · cases hk
  case lstore_n i =>
    obtain rfl := kl1 (k := 0) hlen rfl
    obtain rfl : Instr.lstore i.val = ins := Option.some.inj hres
    unfold kst at hk
    dsimp only at hk
    split at hk
    · split at hk
      · rename_i hx
        cases hk
        exact ⟨⟨Nat.le_refl _, Nat.le_refl _⟩, fun p e R s mid args below meth cc n0 m0 Q hC hf hl hc1 hs1 hz => kz_lstore_n hC hd ho hx hz⟩
      · cases hk
    · cases hk
  case astore i =>
    obtain rfl := kl1 (k := 1) hlen rfl
    obtain rfl : Instr.astore i = ins := Option.some.inj hres
    unfold kst at hk
    dsimp only at hk
    split at hk
    · split at hk
      · rename_i hx
        cases hk
        exact ⟨⟨Nat.le_refl _, Nat.le_refl _⟩, fun p e R s mid args below meth cc n0 m0 Q hC hf hl hc1 hs1 hz => kz_astore hC hd ho hx hz⟩
      · cases hk
    · cases hk
  case astore_n i =>
    obtain rfl := kl1 (k := 0) hlen rfl
    obtain rfl : Instr.astore i.val = ins := Option.some.inj hres
    unfold kst at hk
    dsimp only at hk
    split at hk
    · split at hk
      · rename_i hx
        cases hk
        exact ⟨⟨Nat.le_refl _, Nat.le_refl _⟩, fun p e R s mid args below meth cc n0 m0 Q hC hf hl hc1 hs1 hz => kz_astore_n hC hd ho hx hz⟩
      · cases hk
    · cases hk
  case iinc i n =>
    obtain rfl := kl1 (k := 2) hlen rfl
    change (if -128 ≤ n ∧ n ≤ 127 then some (Instr.iinc i n) else none) = some ins at hres
    split at hres
    · rename_i hr
      obtain rfl : Instr.iinc i n = ins := Option.some.inj hres
      unfold kst at hk
      dsimp only at hk
      split at hk
      · rename_i hx
        cases hk
        exact ⟨⟨Nat.le_refl _, Nat.le_refl _⟩, fun p e R s mid args below meth cc n0 m0 Q hC hf hl hc1 hs1 hz => kz_iinc hC hd ho hr hx hz⟩
      · cases hk
    · cases hres
  case ifCond cnd t =>
    obtain rfl := kl1 (k := 2) hlen rfl
    change (ktg ((kds c).map (fun q => q.1)) (kofs c pc) t).map (Instr.ifCond cnd) = some ins at hres
    obtain ⟨t2, ht, rfl⟩ := Option.map_eq_some_iff.mp hres
    unfold kst at hk
    dsimp only at hk
    split at hk
    · cases hk
      refine ⟨⟨Nat.le_refl _, Nat.le_refl _⟩, fun p e R s mid args below meth cc n0 m0 Q hC hf hl hc1 hs1 hz => ?_⟩
      cases cnd
      · exact kz_if_eq hC hd ho (ktg_ok ht) hz
      · exact kz_if_ne hC hd ho (ktg_ok ht) hz
      · exact kz_if_lt hC hd ho (ktg_ok ht) hz
      · exact kz_if_ge hC hd ho (ktg_ok ht) hz
      · exact kz_if_gt hC hd ho (ktg_ok ht) hz
      · exact kz_if_le hC hd ho (ktg_ok ht) hz
    · cases hk
  case if_icmp cnd t =>
    obtain rfl := kl1 (k := 2) hlen rfl
    change (ktg ((kds c).map (fun q => q.1)) (kofs c pc) t).map (Instr.if_icmp cnd) = some ins at hres
    obtain ⟨t2, ht, rfl⟩ := Option.map_eq_some_iff.mp hres
    unfold kst at hk
    dsimp only at hk
    split at hk
    · cases hk
      refine ⟨⟨Nat.le_refl _, Nat.le_refl _⟩, fun p e R s mid args below meth cc n0 m0 Q hC hf hl hc1 hs1 hz => ?_⟩
      cases cnd
      · exact kz_icmp_eq hC hd ho (ktg_ok ht) hz
      · exact kz_icmp_ne hC hd ho (ktg_ok ht) hz
      · exact kz_icmp_lt hC hd ho (ktg_ok ht) hz
      · exact kz_icmp_ge hC hd ho (ktg_ok ht) hz
      · exact kz_icmp_gt hC hd ho (ktg_ok ht) hz
      · exact kz_icmp_le hC hd ho (ktg_ok ht) hz
    · cases hk
  case ifnull t =>
    obtain rfl := kl1 (k := 2) hlen rfl
    change (ktg ((kds c).map (fun q => q.1)) (kofs c pc) t).map Instr.ifnull = some ins at hres
    obtain ⟨t2, ht, rfl⟩ := Option.map_eq_some_iff.mp hres
    unfold kst at hk
    dsimp only at hk
    split at hk
    · cases hk
      exact ⟨⟨Nat.le_refl _, Nat.le_refl _⟩, fun p e R s mid args below meth cc n0 m0 Q hC hf hl hc1 hs1 hz => kz_ifnull hC hd ho (ktg_ok ht) hz⟩
    · cases hk
  case ifnonnull t =>
    obtain rfl := kl1 (k := 2) hlen rfl
    change (ktg ((kds c).map (fun q => q.1)) (kofs c pc) t).map Instr.ifnonnull = some ins at hres
    obtain ⟨t2, ht, rfl⟩ := Option.map_eq_some_iff.mp hres
    unfold kst at hk
    dsimp only at hk
    split at hk
    · cases hk
      exact ⟨⟨Nat.le_refl _, Nat.le_refl _⟩, fun p e R s mid args below meth cc n0 m0 Q hC hf hl hc1 hs1 hz => kz_ifnonnull hC hd ho (ktg_ok ht) hz⟩
    · cases hk
  case goto t =>
    obtain rfl := kl1 (k := 2) hlen rfl
    change (ktg ((kds c).map (fun q => q.1)) (kofs c pc) t).map Instr.goto = some ins at hres
    obtain ⟨t2, ht, rfl⟩ := Option.map_eq_some_iff.mp hres
    unfold kst at hk
    dsimp only at hk
    cases hk
    exact ⟨⟨Nat.le_refl _, Nat.le_refl _⟩, fun p e R s mid args below meth cc n0 m0 Q hC hf hl hc1 hs1 hz => kz_goto hC hd (ktg_ok ht) hz⟩
  case tableswitch d lo hi offs =>
    change (match ktg ((kds c).map (fun q => q.1)) (kofs c pc) d, offs.toList.mapM (ktg ((kds c).map (fun q => q.1)) (kofs c pc)) with | some d', some l => some (Instr.tableswitch d' lo hi l.toArray) | _, _ => none) = some ins at hres
    split at hres
    · rename_i d2 l2 hd2 hl2
      obtain rfl : Instr.tableswitch d2 lo hi l2.toArray = ins := Option.some.inj hres
      unfold kst at hk
      dsimp only at hk
      split at hk
      · split at hk
        · rename_i hr
          cases hk
          exact ⟨⟨Nat.le_refl _, Nat.le_refl _⟩, fun p e R s mid args below meth cc n0 m0 Q hC hf hl hc1 hs1 hz => kz_tableOut hC hd hr (ktg_ok hd2) hz⟩
        · rename_i hr
          split at hk
          · rename_i t ht
            cases hk
            rw [List.getElem?_toArray] at ht
            obtain ⟨off, h5, h6⟩ := kmapM' hl2 _ _ ht
            rw [Array.getElem?_toList] at h5
            exact ⟨⟨Nat.le_refl _, Nat.le_refl _⟩, fun p e R s mid args below meth cc n0 m0 Q hC hf hl hc1 hs1 hz => kz_tableIn hC hd hr h5 (ktg_ok h6) hz⟩
          · cases hk
      · cases hk
    · cases hres
  case lookupswitch d ps =>
    change (if (ps.toList.zip (ps.toList.drop 1)).all (fun (a, next) => a.1 < next.1) = true then (match ktg ((kds c).map (fun q => q.1)) (kofs c pc) d, ps.toList.mapM (fun q => (ktg ((kds c).map (fun q => q.1)) (kofs c pc) q.2).map (fun t => (q.1, t))) with | some d', some l => some (Instr.lookupswitch d' l.toArray) | _, _ => none) else none) = some ins at hres
    split at hres
    · rename_i hsort
      split at hres
      · rename_i d2 l2 hd2 hl2
        obtain rfl : Instr.lookupswitch d2 l2.toArray = ins := Option.some.inj hres
        unfold kst at hk
        dsimp only at hk
        split at hk
        · cases hk
          exact ⟨⟨Nat.le_refl _, Nat.le_refl _⟩, fun p e R s mid args below meth cc n0 m0 Q hC hf hl hc1 hs1 hz => kz_lookup hC hd hsort rfl (ktg_ok (klook_off hd2 hl2)) hz⟩
        · cases hk
      · cases hres
    · cases hres
  case getfield i =>
    obtain rfl := kl1 (k := 2) hlen rfl
    change (klk kFL (kaq c).2.2.2.2 i).map Instr.getfield = some ins at hres
    obtain ⟨q, hq, rfl⟩ := Option.map_eq_some_iff.mp hres
    have hw := kFLw _ (klk_mem hq)
    unfold kst at hk
    dsimp only at hk
    split at hk
    · split at hk
      · rename_i ci fs ha
        split at hk
        · rename_i hci
          split at hk
          · rename_i v hv
            cases hk
            subst hci
            exact ⟨⟨Nat.le_refl _, Nat.le_refl _⟩, fun p e R s mid args below meth cc n0 m0 Q hC hf hl hc1 hs1 hz => kz_getfield hC hd ho hw.2.1 hw.2.2 hw.1 ha hv hz⟩
          · cases hk
        · cases hk
      · cases hk
    · cases hk
  case putfield i =>
    obtain rfl := kl1 (k := 2) hlen rfl
    change (klk kFL (kaq c).2.2.2.2 i).map Instr.putfield = some ins at hres
    obtain ⟨q, hq, rfl⟩ := Option.map_eq_some_iff.mp hres
    have hw := kFLw _ (klk_mem hq)
    unfold kst at hk
    dsimp only at hk
    split at hk
    · split at hk
      · rename_i ci fs ha
        split at hk
        · rename_i hci
          obtain ⟨hci, hlt, hft⟩ := hci
          cases hk
          subst hci
          exact ⟨⟨Nat.le_refl _, Nat.le_refl _⟩, fun p e R s mid args below meth cc n0 m0 Q hC hf hl hc1 hs1 hz => kz_putfield hC hd ho hw.2.1 hw.2.2 hw.1 (kfinq hc hget) ha hlt hft hz⟩
        · cases hk
      · cases hk
    · cases hk
  case iaload =>
    obtain rfl := kl1 (k := 0) hlen rfl
    obtain rfl : Instr.iaload = ins := Option.some.inj hres
    unfold kst at hk
    dsimp only at hk
    split at hk
    · split at hk
      · rename_i ha
        split at hk
        · rename_i hi
          cases hk
          exact ⟨⟨Nat.le_refl _, Nat.le_refl _⟩, fun p e R s mid args below meth cc n0 m0 Q hC hf hl hc1 hs1 hz => kz_iaload hC hd ho ha hi.1 hi.2 hz⟩
        · cases hk
      · cases hk
    · split at hk
      · rename_i hi
        obtain ⟨rfl, hi0, hi1⟩ := hi
        cases hk
        exact ⟨⟨Nat.le_refl _, Nat.le_refl _⟩, fun p e R s mid args below meth cc n0 m0 Q hC hf hl hc1 hs1 hz => kz_scload hC hd ho hi0 hi1 hz⟩
      · cases hk
    · cases hk
  case saload =>
    obtain rfl := kl1 (k := 0) hlen rfl
    obtain rfl : Instr.saload = ins := Option.some.inj hres
    unfold kst at hk
    dsimp only at hk
    split at hk
    · split at hk
      · rename_i ha
        split at hk
        · rename_i hi
          cases hk
          exact ⟨⟨Nat.le_refl _, Nat.le_refl _⟩, fun p e R s mid args below meth cc n0 m0 Q hC hf hl hc1 hs1 hz => kz_saload hC hd ho ha hi.1 hi.2 hz⟩
        · cases hk
      · cases hk
    · cases hk
  case laload =>
    obtain rfl := kl1 (k := 0) hlen rfl
    obtain rfl : Instr.laload = ins := Option.some.inj hres
    unfold kst at hk
    dsimp only at hk
    split at hk
    · split at hk
      · rename_i ha
        split at hk
        · rename_i hi
          cases hk
          exact ⟨⟨Nat.le_refl _, Nat.le_refl _⟩, fun p e R s mid args below meth cc n0 m0 Q hC hf hl hc1 hs1 hz => kz_laload hC hd ho ha hi.1 hi.2 hz⟩
        · cases hk
      · cases hk
    · cases hk
  case baload =>
    obtain rfl := kl1 (k := 0) hlen rfl
    obtain rfl : Instr.baload = ins := Option.some.inj hres
    unfold kst at hk
    dsimp only at hk
    split at hk
    · split at hk
      · rename_i ha
        split at hk
        · rename_i hi
          cases hk
          exact ⟨⟨Nat.le_refl _, Nat.le_refl _⟩, fun p e R s mid args below meth cc n0 m0 Q hC hf hl hc1 hs1 hz => kz_baload1 hC hd ho ha hi.1 hi.2 hz⟩
        · cases hk
      · rename_i ha
        split at hk
        · rename_i hi
          cases hk
          exact ⟨⟨Nat.le_refl _, Nat.le_refl _⟩, fun p e R s mid args below meth cc n0 m0 Q hC hf hl hc1 hs1 hz => kz_baload4 hC hd ho ha hi.1 hi.2 hz⟩
        · cases hk
      · cases hk
    · cases hk
  case aaload =>
    obtain rfl := kl1 (k := 0) hlen rfl
    obtain rfl : Instr.aaload = ins := Option.some.inj hres
    unfold kst at hk
    dsimp only at hk
    split at hk
    · split at hk
      · rename_i ci n f ha
        split at hk
        · rename_i hi
          cases hk
          exact ⟨⟨Nat.le_refl _, Nat.le_refl _⟩, fun p e R s mid args below meth cc n0 m0 Q hC hf hl hc1 hs1 hz => kz_aaload hC hd ho hi.2.2 ha hi.1 hi.2.1 hz⟩
        · cases hk
      · cases hk
    · cases hk
  case iastore =>
    obtain rfl := kl1 (k := 0) hlen rfl
    obtain rfl : Instr.iastore = ins := Option.some.inj hres
    unfold kst at hk
    dsimp only at hk
    split at hk
    · split at hk
      · rename_i ha
        split at hk
        · rename_i hi
          cases hk
          exact ⟨⟨Nat.le_refl _, Nat.le_refl _⟩, fun p e R s mid args below meth cc n0 m0 Q hC hf hl hc1 hs1 hz => kz_iastore hC hd ho ha hi.1 hi.2 hz⟩
        · cases hk
      · cases hk
    · cases hk
  case sastore =>
    obtain rfl := kl1 (k := 0) hlen rfl
    obtain rfl : Instr.sastore = ins := Option.some.inj hres
    unfold kst at hk
    dsimp only at hk
    split at hk
    · split at hk
      · rename_i ha
        split at hk
        · rename_i hi
          cases hk
          exact ⟨⟨Nat.le_refl _, Nat.le_refl _⟩, fun p e R s mid args below meth cc n0 m0 Q hC hf hl hc1 hs1 hz => kz_sastore hC hd ho ha hi.1 hi.2 hz⟩
        · cases hk
      · cases hk
    · cases hk
  case lastore =>
    obtain rfl := kl1 (k := 0) hlen rfl
    obtain rfl : Instr.lastore = ins := Option.some.inj hres
    unfold kst at hk
    dsimp only at hk
    split at hk
    · split at hk
      · rename_i ha
        split at hk
        · rename_i hi
          cases hk
          exact ⟨⟨Nat.le_refl _, Nat.le_refl _⟩, fun p e R s mid args below meth cc n0 m0 Q hC hf hl hc1 hs1 hz => kz_lastore hC hd ho ha hi.1 hi.2 hz⟩
        · cases hk
      · cases hk
    · cases hk
  case bastore =>
    obtain rfl := kl1 (k := 0) hlen rfl
    obtain rfl : Instr.bastore = ins := Option.some.inj hres
    unfold kst at hk
    dsimp only at hk
    split at hk
    · split at hk
      · rename_i ha
        split at hk
        · rename_i hi
          cases hk
          exact ⟨⟨Nat.le_refl _, Nat.le_refl _⟩, fun p e R s mid args below meth cc n0 m0 Q hC hf hl hc1 hs1 hz => kz_bastore1 hC hd ho ha hi.1 hi.2 hz⟩
        · cases hk
      · rename_i ha
        split at hk
        · rename_i hi
          cases hk
          exact ⟨⟨Nat.le_refl _, Nat.le_refl _⟩, fun p e R s mid args below meth cc n0 m0 Q hC hf hl hc1 hs1 hz => kz_bastore4 hC hd ho ha hi.1 hi.2.1 hi.2.2 hz⟩
        · cases hk
      · cases hk
    · cases hk
  case aastore =>
    obtain rfl := kl1 (k := 0) hlen rfl
    obtain rfl : Instr.aastore = ins := Option.some.inj hres
    unfold kst at hk
    dsimp only at hk
    split at hk
    · split at hk
      · rename_i ha hb
        split at hk
        · rename_i hi
          obtain ⟨hi0, hi1, hi2, hi3⟩ := hi
          subst hi2
          cases hk
          exact ⟨⟨Nat.le_refl _, Nat.le_refl _⟩, fun p e R s mid args below meth cc n0 m0 Q hC hf hl hc1 hs1 hz => kz_aastore hC hd ho hi3 ha hb hi0 hi1 hz⟩
        · cases hk
      · cases hk
    · cases hk
  case arraylength =>
    obtain rfl := kl1 (k := 0) hlen rfl
    obtain rfl : Instr.arraylength = ins := Option.some.inj hres
    unfold kst at hk
    dsimp only at hk
    split at hk
    · split at hk
      · rename_i ha
        split at hk
        · rename_i hi
          cases hk
          exact ⟨⟨Nat.le_refl _, Nat.le_refl _⟩, fun p e R s mid args below meth cc n0 m0 Q hC hf hl hc1 hs1 hz => kz_arraylength hC hd ho hi ha hz⟩
        · cases hk
      · cases hk
    · split at hk
      · rename_i hi
        subst hi
        cases hk
        exact ⟨⟨Nat.le_refl _, Nat.le_refl _⟩, fun p e R s mid args below meth cc n0 m0 Q hC hf hl hc1 hs1 hz => kz_sclen hC hd ho hz⟩
      · cases hk
    · cases hk
  case newarray ty =>
    obtain rfl := kl1 (k := 1) hlen rfl
    obtain rfl : Instr.newarray ty = ins := Option.some.inj hres
    unfold kst at hk
    dsimp only at hk
    split at hk
    · cases ty
      case char => cases hk
      case float => cases hk
      case double => cases hk
      case boolean =>
        dsimp only [kkind] at hk
        split at hk
        · rename_i hi
          cases hk
          exact ⟨⟨Nat.le_succ _, Nat.le_add_right _ _⟩, fun p e R s mid args below meth cc n0 m0 Q hC hf hl hc1 hs1 hz => kz_newarray_boolean hC hd ho hi.1 hi.2 hc1 hs1 hz⟩
        · cases hk
      case byte =>
        dsimp only [kkind] at hk
        split at hk
        · rename_i hi
          cases hk
          exact ⟨⟨Nat.le_succ _, Nat.le_add_right _ _⟩, fun p e R s mid args below meth cc n0 m0 Q hC hf hl hc1 hs1 hz => kz_newarray_byte hC hd ho hi.1 hi.2 hc1 hs1 hz⟩
        · cases hk
      case short =>
        dsimp only [kkind] at hk
        split at hk
        · rename_i hi
          cases hk
          exact ⟨⟨Nat.le_succ _, Nat.le_add_right _ _⟩, fun p e R s mid args below meth cc n0 m0 Q hC hf hl hc1 hs1 hz => kz_newarray_short hC hd ho hi.1 hi.2 hc1 hs1 hz⟩
        · cases hk
      case int =>
        dsimp only [kkind] at hk
        split at hk
        · rename_i hi
          cases hk
          exact ⟨⟨Nat.le_succ _, Nat.le_add_right _ _⟩, fun p e R s mid args below meth cc n0 m0 Q hC hf hl hc1 hs1 hz => kz_newarray_int hC hd ho hi.1 hi.2 hc1 hs1 hz⟩
        · cases hk
      case long =>
        dsimp only [kkind] at hk
        split at hk
        · rename_i hi
          cases hk
          exact ⟨⟨Nat.le_succ _, Nat.le_add_right _ _⟩, fun p e R s mid args below meth cc n0 m0 Q hC hf hl hc1 hs1 hz => kz_newarray_long hC hd ho hi.1 hi.2 hc1 hs1 hz⟩
        · cases hk
    · cases hk
  case anewarray i =>
    obtain rfl := kl1 (k := 2) hlen rfl
    change (klk kCK (kaq c).2.2.2.2 i).map Instr.anewarray = some ins at hres
    obtain ⟨q, hq, rfl⟩ := Option.map_eq_some_iff.mp hres
    have hw := kCKw _ (klk_mem hq)
    unfold kst at hk
    dsimp only at hk
    split at hk
    · split at hk
      · rename_i hi
        cases hk
        exact ⟨⟨Nat.le_succ _, Nat.le_add_right _ _⟩, fun p e R s mid args below meth cc n0 m0 Q hC hf hl hc1 hs1 hz => kz_anewarray hC hd ho hi.2.2 hw.1 hi.1 hi.2.1 hc1 hs1 hz⟩
      · cases hk
    · cases hk
  case new i =>
    obtain rfl := kl1 (k := 2) hlen rfl
    change (klk kCK (kaq c).2.2.2.2 i).map Instr.new = some ins at hres
    obtain ⟨q, hq, rfl⟩ := Option.map_eq_some_iff.mp hres
    have hw := kCKw _ (klk_mem hq)
    unfold kst at hk
    dsimp only at hk
    cases hk
    exact ⟨⟨Nat.le_succ _, Nat.le_add_right _ _⟩, fun p e R s mid args below meth cc n0 m0 Q hC hf hl hc1 hs1 hz => kz_new hC hd ho hw.2 hw.1 hc1 hs1 hz⟩
  case invokespecial i =>
    obtain rfl := kl1 (k := 2) hlen rfl
    change (match klk kML (kaq c).2.2.2.2 i with | some 1000 => some Instr.fneg | some c => if c < 1000 then some (Instr.invokespecial c) else none | none => (klk kMN (kaq c).2.2.2.2 i).map Instr.invokespecial) = some ins at hres
    split at hres
    · rename_i hm
      obtain rfl : Instr.fneg = ins := Option.some.inj hres
      unfold kst at hk
      dsimp only at hk
      split at hk
      · split at hk
        · rename_i hwt
          cases hk
          exact ⟨⟨Nat.le_refl _, Nat.le_refl _⟩, fun p e R s mid args below meth cc n0 m0 Q hC hf hl hc1 hs1 hz => kz_objinit hC hd ho (kMLw _ (klk_mem hm)) kOi.1 kOi.2 (by omega) (by omega) hwt hz⟩
        · cases hk
      · cases hk
    · split at hres
      · obtain rfl := Option.some.inj hres
        unfold kst at hk
        cases hk
      · cases hres
    · obtain ⟨q, hq, rfl⟩ := Option.map_eq_some_iff.mp hres
      unfold kst at hk
      cases hk
  case invokestatic i =>
    obtain rfl := kl1 (k := 2) hlen rfl
    change (match klk kML (kaq c).2.2.2.2 i with | some 1001 => some Instr.fadd | some c => if c < 1000 then some (Instr.invokestatic c) else none | none => none) = some ins at hres
    split at hres
    · rename_i hm
      obtain rfl : Instr.fadd = ins := Option.some.inj hres
      unfold kst at hk
      dsimp only at hk
      split at hk
      · split at hk
        · rename_i hb ha
          split at hk
          · rename_i hi
            obtain ⟨i1, i2, i3, i4, i5, i6⟩ := hi
            cases hk
            exact ⟨⟨Nat.le_refl _, Nat.le_refl _⟩, fun p e R s mid args below meth cc n0 m0 Q hC hf hl hc1 hs1 hz => kz_arraycopy hC hd ho (kMLw _ (klk_mem hm)) kOn.1 kOn.2.1 kOn.2.2 hb ha i1 i2 i3 i4 i5 (by omega) (by omega) i6 hz⟩
          · cases hk
        · cases hk
      · cases hk
    · split at hres
      · obtain rfl := Option.some.inj hres
        unfold kst at hk
        cases hk
      · cases hres
    · cases hres
  case invokevirtual i =>
    obtain rfl := kl1 (k := 2) hlen rfl
    change (match klk kML (kaq c).2.2.2.2 i with | some 1002 => some Instr.fsub | some 1003 => some Instr.fmul | some c => if c < 1000 then some (Instr.invokevirtual c) else none | none => some Instr.nop) = some ins at hres
    split at hres
    · rename_i hm
      obtain rfl : Instr.fsub = ins := Option.some.inj hres
      unfold kst at hk
      dsimp only at hk
      split at hk
      · split at hk
        · rename_i hwt
          cases hk
          exact ⟨⟨Nat.le_refl _, Nat.le_refl _⟩, fun p e R s mid args below meth cc n0 m0 Q hC hf hl hc1 hs1 hz => hstr.1 p e R s mid args below meth cc c n0 m0 Q pc L _ h _ i hC hd ho (kMLw _ (klk_mem hm)) hf hl hc1 hs1 hwt.1 hwt.2 hz⟩
        · cases hk
      · cases hk
    · rename_i hm
      obtain rfl : Instr.fmul = ins := Option.some.inj hres
      unfold kst at hk
      dsimp only at hk
      split at hk
      · split at hk
        · rename_i hi
          cases hk
          exact ⟨⟨Nat.le_refl _, Nat.le_refl _⟩, fun p e R s mid args below meth cc n0 m0 Q hC hf hl hc1 hs1 hz => hstr.2 p e R s mid args below meth cc c n0 m0 Q pc L _ h _ _ i hC hd ho (kMLw _ (klk_mem hm)) hf hl hc1 hs1 hi hz⟩
        · cases hk
      · cases hk
    · split at hres
      · obtain rfl := Option.some.inj hres
        unfold kst at hk
        cases hk
      · cases hres
    · obtain rfl := Option.some.inj hres
      unfold kst at hk
      cases hk
  case checkcast i =>
    obtain rfl : Instr.nop = ins := Option.some.inj hres
    unfold kst at hk
    cases hk
  case ireturn =>
    obtain rfl : Instr.ireturn = ins := Option.some.inj hres
    unfold kst at hk
    cases hk
  case lreturn =>
    obtain rfl : Instr.lreturn = ins := Option.some.inj hres
    unfold kst at hk
    cases hk
  case areturn =>
    obtain rfl : Instr.areturn = ins := Option.some.inj hres
    unfold kst at hk
    cases hk
  case return_ =>
    obtain rfl : Instr.return_ = ins := Option.some.inj hres
    unfold kst at hk
    cases hk
  all_goals exact (kno hres).elim
