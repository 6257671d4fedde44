theorem kML0 : ∀ q ∈ kML, q.2.2 ≠ 0 := by decide +kernel
theorem kMN0 : ∀ q ∈ kMN, q.2.2 ≠ 0 ∧ q.2.2 < 295 := by decide +kernel
def kinv (cd : List Instr) : Bool := cd.all (fun ins => match ins with
  | .invokespecial c => decide ((kAll.getD c (⟨"", "", ""⟩, code, 0, none, 0)).1.name = "<init>")
  | .invokevirtual c => !decide ((kAll.getD c (⟨"", "", ""⟩, code, 0, none, 0)).1.name = "<init>")
  | _ => true)
theorem kinv_ok : ((List.range 295).all (fun c => kinv (kMl.getD c ([], 0, 0, 0, 0)).1)) = true := by decide +kernel
theorem kinvI {c pc c' : Nat} (hc : c < 295) (hget : (kmq c).1[pc]? = some (.invokespecial c')) : (kaq c').1.name = "<init>" := by
  have h1 := List.all_eq_true.mp kinv_ok c (List.mem_range.mpr hc)
  have h2 := List.all_eq_true.mp h1 _ (List.mem_of_getElem? hget)
  exact of_decide_eq_true h2
theorem kinvV {c pc c' : Nat} (hc : c < 295) (hget : (kmq c).1[pc]? = some (.invokevirtual c')) : (kaq c').1.name ≠ "<init>" := by
  have h1 := List.all_eq_true.mp kinv_ok c (List.mem_range.mpr hc)
  have h2 := List.all_eq_true.mp h1 _ (List.mem_of_getElem? hget)
  have h3 : (!decide ((kaq c').1.name = "<init>")) = true := h2
  simpa using h3
theorem kcallee_inv {ins : Instr} {kd c' : Nat} (h : kcallee ins = some (kd, c')) : (kd = 0 ∧ ins = .invokestatic c') ∨ (kd = 1 ∧ ins = .invokespecial c') ∨ (kd = 2 ∧ ins = .invokevirtual c') := by
  unfold kcallee at h
  split at h
  · cases h; exact Or.inl ⟨rfl, rfl⟩
  · cases h; exact Or.inr (Or.inl ⟨rfl, rfl⟩)
  · cases h; exact Or.inr (Or.inr ⟨rfl, rfl⟩)
  · cases h
set_option maxHeartbeats 4000000 in
theorem kres_S {o pc c' : Nat} {os : List Nat} {raw : Instr} (hres : kres o os pc raw = some (.invokestatic c')) : ∃ i, raw = .invokestatic i ∧ klk kML o i = some c' ∧ c' < 1000 := by
  cases raw
  case invokestatic i =>
    change (match klk kML o i with | some 1001 => some Instr.fadd | some c => if c < 1000 then some (Instr.invokestatic c) else none | none => none) = some (.invokestatic c') at hres
    split at hres
    · cases (Option.some.inj hres)
    · rename_i c2 _ hm
      split at hres
      · rename_i hlt
        have h2 := Option.some.inj hres
        injection h2 with h2
        subst h2
        exact ⟨i, rfl, hm, hlt⟩
      · cases hres
    · cases hres
  all_goals exfalso
  all_goals first
    | exact kno hres
    | cases (Option.some.inj hres)
    | ((unfold kres at hres; dsimp only at hres; repeat' (split at hres)) <;> first
        | exact kno hres
        | cases (Option.some.inj hres)
        | (obtain ⟨_, _, h⟩ := Option.map_eq_some_iff.mp hres; cases h))
set_option maxHeartbeats 4000000 in
theorem kres_V {o pc c' : Nat} {os : List Nat} {raw : Instr} (hres : kres o os pc raw = some (.invokevirtual c')) : ∃ i, raw = .invokevirtual i ∧ klk kML o i = some c' ∧ c' < 1000 := by
  cases raw
  case invokevirtual i =>
    change (match klk kML o i with | some 1002 => some Instr.fsub | some 1003 => some Instr.fmul | some c => if c < 1000 then some (Instr.invokevirtual c) else none | none => some Instr.nop) = some (.invokevirtual c') at hres
    split at hres
    · cases (Option.some.inj hres)
    · cases (Option.some.inj hres)
    · rename_i c2 _ _ hm
      split at hres
      · rename_i hlt
        have h2 := Option.some.inj hres
        injection h2 with h2
        subst h2
        exact ⟨i, rfl, hm, hlt⟩
      · cases hres
    · cases (Option.some.inj hres)
  all_goals exfalso
  all_goals first
    | exact kno hres
    | cases (Option.some.inj hres)
    | ((unfold kres at hres; dsimp only at hres; repeat' (split at hres)) <;> first
        | exact kno hres
        | cases (Option.some.inj hres)
        | (obtain ⟨_, _, h⟩ := Option.map_eq_some_iff.mp hres; cases h))
set_option maxHeartbeats 4000000 in
theorem kres_I {o pc c' : Nat} {os : List Nat} {raw : Instr} (hres : kres o os pc raw = some (.invokespecial c')) : ∃ i, raw = .invokespecial i ∧ ((klk kML o i = some c' ∧ c' < 1000) ∨ klk kMN o i = some c') := by
  cases raw
  case invokespecial i =>
    change (match klk kML o i with | some 1000 => some Instr.fneg | some c => if c < 1000 then some (Instr.invokespecial c) else none | none => (klk kMN o i).map Instr.invokespecial) = some (.invokespecial c') at hres
    split at hres
    · cases (Option.some.inj hres)
    · rename_i c2 _ hm
      split at hres
      · rename_i hlt
        have h2 := Option.some.inj hres
        injection h2 with h2
        subst h2
        exact ⟨i, rfl, Or.inl ⟨hm, hlt⟩⟩
      · cases hres
    · obtain ⟨q, hq, h2⟩ := Option.map_eq_some_iff.mp hres
      injection h2 with h2
      subst h2
      exact ⟨i, rfl, Or.inr hq⟩
  all_goals exfalso
  all_goals first
    | exact kno hres
    | cases (Option.some.inj hres)
    | ((unfold kres at hres; dsimp only at hres; repeat' (split at hres)) <;> first
        | exact kno hres
        | cases (Option.some.inj hres)
        | (obtain ⟨_, _, h⟩ := Option.map_eq_some_iff.mp hres; cases h))
-- a return: the raw instruction is the resolved one
set_option maxHeartbeats 4000000 in
theorem kres_R {o pc : Nat} {os : List Nat} {raw ins : Instr} (hres : kres o os pc raw = some ins) (hi : ins = .return_ ∨ ins = .ireturn ∨ ins = .lreturn ∨ ins = .areturn) : raw = ins := by
  cases raw
  case return_ => exact Option.some.inj hres
  case ireturn => exact Option.some.inj hres
  case lreturn => exact Option.some.inj hres
  case areturn => exact Option.some.inj hres
  all_goals exfalso
  all_goals rcases hi with rfl | rfl | rfl | rfl
  all_goals first
    | exact kno hres
    | cases (Option.some.inj hres)
    | ((unfold kres at hres; dsimp only at hres; repeat' (split at hres)) <;> first
        | exact kno hres
        | cases (Option.some.inj hres)
        | (obtain ⟨_, _, h⟩ := Option.map_eq_some_iff.mp hres; cases h))
/-- what a method's kind of answer says of its type -/
theorem krt (c : Nat) (hc : c < 295) : match (kmq c).2.2.2.1 with
    | 0 => (kaq c).2.2.2.1 = none
    | 1 => (kaq c).2.2.2.1 = some .int
    | 2 => (kaq c).2.2.2.1 = some .boolean
    | 3 => (kaq c).2.2.2.1 = some .long
    | _ => (∃ n, (kaq c).2.2.2.1 = some (.object n)) ∨ ∃ t, (kaq c).2.2.2.1 = some (.array t) := by
  by_cases h0 : c = 0
  · subst h0; exact rfl
  · exact (kmeth c hc h0).2.1.2.2.1
theorem kret_sim (l : Launch) (base : Nat) (ad : Nat → Nat) (cT : Nat → ClassId) (D : va_G) (sc : List Int) {c pc : Nat} {ins : Instr} {L : kLs} {st : List kV} {h : kH} {rv : Option kV} (hc : c < 295) (hget : (kmq c).1[pc]? = some ins) (hre : kret (kmq c).2.2.2.1 ins st = some rv) (p : Program) (e : Env) (R : Room) (s : State) (mid : MethodId) (args : Array Value) (below : List Frame) (meth : Method) (cc : Code) (n0 m0 : Nat) (hC : kCx p s mid args meth cc c base ad cT D sc) :
    kZ p l e R s mid args below meth cc c base ad cT D n0 m0 (MQ below (kQ base ad cT D rv h) args s (h.1 - n0) (h.2.1 - m0) (kA base)) pc L st h := by
  obtain ⟨raw, len, hd, hres, ho, hlen⟩ := kcode hc hget
  have hr := krt c hc
  unfold kret at hre
  split at hre
  · rename_i hrk
    cases hre
    rw [hrk] at hr
    obtain rfl := kres_R hres (Or.inl rfl)
    obtain rfl := kl1 (k := 0) hlen rfl
    exact kz_return hC hd hr
  · rename_i hrk
    cases hre
    rw [hrk] at hr
    obtain rfl := kres_R hres (Or.inr (Or.inl rfl))
    obtain rfl := kl1 (k := 0) hlen rfl
    exact kz_ireturn hC hd hr
  · rename_i hrk
    split at hre
    · rename_i hx
      cases hre
      rw [hrk] at hr
      obtain rfl := kres_R hres (Or.inr (Or.inl rfl))
      obtain rfl := kl1 (k := 0) hlen rfl
      exact kz_zreturn hC hd hr hx
    · cases hre
  · rename_i hrk
    cases hre
    rw [hrk] at hr
    obtain rfl := kres_R hres (Or.inr (Or.inr (Or.inl rfl)))
    obtain rfl := kl1 (k := 0) hlen rfl
    exact kz_lreturn hC hd hr
  · rename_i hrk
    cases hre
    rw [hrk] at hr
    obtain rfl := kres_R hres (Or.inr (Or.inr (Or.inr rfl)))
    obtain rfl := kl1 (k := 0) hlen rfl
    exact kz_areturn hC hd hr
  · cases hre
