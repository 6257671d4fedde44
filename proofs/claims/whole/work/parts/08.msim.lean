theorem krcv_inv {h : kH} {ci : Nat} {v : Option kV} (hr : krcv h ci v = true) : ∃ a fs, v = some (.inr (.inr (.inl (some a)))) ∧ h.2.2 a = some (.inr (.inr (ci, fs))) := by
  unfold krcv at hr
  split at hr
  · rename_i a
    split at hr
    · rename_i ci' fs ha
      have := of_decide_eq_true hr
      subst this
      exact ⟨a, fs, rfl, ha⟩
    · cases hr
  · cases hr
theorem kk640 {d r : Nat} (h : 80 * (d + 8) ≤ r) : 640 ≤ r := by
  have e : 80 * (d + 8) = 80 * d + 640 := Nat.mul_add 80 d 8
  omega
/-- what a call of the small machine takes -/
theorem kcall_inv {ins : Instr} {st rest : List kV} {h : kH} {kd c' c2 rk : Nat} {cd : List Instr} {L2 : kLs} (hce : kcallee ins = some (kd, c')) (hcall : kcall kms ins st h = some (c2, cd, rk, L2, rest)) :
    c' < 295 ∧ cd = (kmq c').1 ∧ rk = (kmq c').2.2.2.1 ∧ ∃ vs : List kV, st = vs.reverse ++ rest ∧ vs.length = (kmq c').2.2.1 ∧ L2 = kent vs (kmq c').2.1 ∧ (kargs vs).length ≤ (kmq c').2.1 ∧ kwts rest ≤ 8 ∧ (kd = 0 → (kmq c').2.2.2.2 = 1000) ∧ (kd ≠ 0 → (kmq c').2.2.2.2 ≠ 1000 ∧ krcv h (kmq c').2.2.2.2 vs.head? = true) ∧ (kd = 1 → (kmq c').2.2.2.1 = 0) := by
  unfold kcall at hcall
  rw [hce] at hcall
  dsimp only at hcall
  cases hms : kms c' with
  | none => rw [hms] at hcall; cases hcall
  | some x =>
    obtain ⟨hlt, rfl⟩ := kmsq c' x hms
    rw [hms] at hcall
    dsimp only at hcall
    split at hcall
    · rename_i hh
      obtain ⟨h1, h2, h3, h4, h5, h6⟩ := hh
      have hq := Option.some.inj hcall
      cases hq
      refine ⟨hlt, rfl, rfl, (st.take (kmq c').2.2.1).reverse, ?_, ?_, rfl, h2, h3, h4, h5, h6⟩
      · rw [List.reverse_reverse, List.take_append_drop]
      · rw [List.length_reverse, List.length_take]; exact Nat.min_eq_left h1
    · cases hcall
set_option maxHeartbeats 8000000 in
/-- THE SIMULATION: what the small machine answers, the real one answers -/
theorem ksim (l : Launch) (base : Nat) (ad : Nat → Nat) (cT : Nat → ClassId) (D : va_G) (sc : List Int) (hstr : kStrOK l base ad cT D sc) : ∀ (n d c pc : Nat) (L : kLs) (st : List kV) (h : kH) (rv : Option kV) (h' : kH), c < 295 → kx kfk (ksx sc) kms n d (kmq c).1 (kmq c).2.2.2.1 pc L st h = some (rv, h') →
    (h.1 ≤ h'.1 ∧ h.2.1 ≤ h'.2.1) ∧ ∀ (p : Program) (e : Env) (R : Room) (s : State) (mid : MethodId) (args : Array Value) (below : List Frame) (meth : Method) (cc : Code) (n0 m0 : Nat), kCx p s mid args meth cc c base ad cT D sc → d + 8 ≤ R.frames → 80 * (d + 8) ≤ R.locals → h'.1 - n0 ≤ R.cells → h'.2.1 - m0 ≤ R.slots →
      kZ p l e R s mid args below meth cc c base ad cT D n0 m0 (MQ below (kQ base ad cT D rv h') args s (h'.1 - n0) (h'.2.1 - m0) (kA base)) pc L st h := by
  intro n
  induction n with
  | zero => intro d c pc L st h rv h' hc hrun; cases hrun
  | succ n ih =>
    intro d c pc L st h rv h' hc hrun
    rw [kx] at hrun
    cases hget : (kmq c).1[pc]? with
    | none => rw [hget] at hrun; cases hrun
    | some ins =>
      rw [hget] at hrun
      dsimp only at hrun
      cases hce : kcallee ins with
      | none =>
        rw [hce] at hrun
        dsimp only at hrun
        cases hre : kret (kmq c).2.2.2.1 ins st with
        | some rv2 =>
          rw [hre] at hrun
          have hq := Option.some.inj hrun
          cases hq
          exact ⟨⟨Nat.le_refl _, Nat.le_refl _⟩, fun p e R s mid args below meth cc n0 m0 hC _ _ _ _ => kret_sim l base ad cT D sc hc hget hre p e R s mid args below meth cc n0 m0 hC⟩
        | none =>
          rw [hre] at hrun
          dsimp only at hrun
          cases hk : kst kfk (ksx sc) ins pc L st h with
          | none => rw [hk] at hrun; cases hrun
          | some r =>
            obtain ⟨pc', L', st', h1⟩ := r
            rw [hk] at hrun
            dsimp only at hrun
            obtain ⟨g, k⟩ := ih d c pc' L' st' h1 rv h' hc hrun
            obtain ⟨g1, k1⟩ := kstep l base ad cT D sc hstr hc hget hk
            exact ⟨⟨Nat.le_trans g1.1 g.1, Nat.le_trans g1.2 g.2⟩, fun p e R s mid args below meth cc n0 m0 hC hf hl hc1 hs1 => k1 p e R s mid args below meth cc n0 m0 _ hC (by omega) (kk640 hl) (by omega) (by omega) (k p e R s mid args below meth cc n0 m0 hC hf hl hc1 hs1)⟩
      | some q =>
        obtain ⟨kd, c'⟩ := q
        rw [hce] at hrun
        dsimp only at hrun
        cases d with
        | zero => cases hrun
        | succ d' =>
          cases hcall : kcall kms ins st h with
          | none => rw [hcall] at hrun; cases hrun
          | some q =>
            obtain ⟨c2, cd, rk, L2, rest⟩ := q
            rw [hcall] at hrun
            dsimp only at hrun
            obtain ⟨hc', rfl, rfl, vs, hst0, hna, rfl, hla, hwt, hk0, hk12, hk1⟩ := kcall_inv hce hcall
            cases hin : kx kfk (ksx sc) kms n d' (kmq c').1 (kmq c').2.2.2.1 0 (kent vs (kmq c').2.1) [] h with
            | none => rw [hin] at hrun; cases hrun
            | some q =>
              obtain ⟨rv1, h1⟩ := q
              rw [hin] at hrun
              dsimp only at hrun
              obtain ⟨g, k⟩ := ih (d' + 1) c (pc + 1) L (rv1.toList ++ rest) h1 rv h' hc hrun
              obtain ⟨g1, k1⟩ := ih d' c' 0 (kent vs (kmq c').2.1) [] h rv1 h1 hc' hin
              refine ⟨⟨Nat.le_trans g1.1 g.1, Nat.le_trans g1.2 g.2⟩, fun p e R s mid args below meth cc n0 m0 hC hf hl hc1 hs1 => ?_⟩
              have kk := k p e R s mid args below meth cc n0 m0 hC hf hl hc1 hs1
              have hf2 : d' + 9 ≤ R.frames := by omega
              have hl2 : 80 * (d' + 9) ≤ R.locals := by
                have e : d' + 1 + 8 = d' + 9 := by omega
                rw [e] at hl
                exact hl
              have hc2 : h1.1 - n0 ≤ R.cells := by omega
              have hs2 : h1.2.1 - m0 ≤ R.slots := by omega
              obtain ⟨raw, len, hd, hres, ho, hlen⟩ := kcode hc hget
              have met : c' ≠ 0 → (∀ v ∈ vs, kOK v) → Met l (kaq c').1 (kws c') (krm d' (h1.1 - h.1) (h1.2.1 - h.2.1)) (kPc base ad cT D sc vs h) (kQ base ad cT D rv1 h1) (h1.1 - h.1) (h1.2.1 - h.2.1) (kA base) := by
                intro h0 hok
                obtain ⟨-, w1, w2, w3⟩ := kmeth c' hc' h0
                have w2' : (kaq c').2.2.1 = (kmq c').2.1 := w2
                refine kMet w1.1.2.2.1 w3 hok (by rw [w2']; exact hla) (fun p e s mid args below meth cc hC => ?_)
                rw [w2']
                exact k1 p e (krm d' (h1.1 - h.1) (h1.2.1 - h.2.1)) s mid args below meth cc h.1 h.2.1 hC (Nat.le_refl _) (Nat.le_refl _) (Nat.le_refl _) (Nat.le_refl _)
              rcases kcallee_inv hce with ⟨rfl, rfl⟩ | ⟨rfl, rfl⟩ | ⟨rfl, rfl⟩
              · obtain ⟨i, rfl, hm, hlt⟩ := kres_S hres
                obtain rfl := kl1 (k := 2) hlen rfl
                have h0 : c' ≠ 0 := kML0 _ (klk_mem hm)
                obtain ⟨-, w1, w2, w3⟩ := kmeth c' hc' h0
                obtain ⟨⟨w11, w12, w13, w14, w15⟩, w4, w5, w6, w7⟩ := w1
                obtain ⟨w61, w62⟩ := w6 (hk0 rfl)
                have hw := kMLw _ (klk_mem hm)
                have hw2 : Cond.methodLink (kon (kaq c).2.2.2.2) i (kaq c').1 ∈ kG := by rw [← kyn_lt hlt]; exact hw
                rw [hst0]
                intro H ls locs hH hL hst hS hn hm2
                exact kz_callS hC hd ho hw2 w11 w12 ⟨w14, w15⟩ w61 (by rw [hna]; exact w62) w4 (met h0 (fun v hv => hst v (List.mem_append_left _ (List.mem_reverse.mpr hv)))) hf2 hl2 hc2 hs2 hwt g1.1 g1.2 kk H ls locs hH hL hst hS hn hm2
              · obtain ⟨i, rfl, hm⟩ := kres_I hres
                obtain rfl := kl1 (k := 2) hlen rfl
                obtain ⟨hci, hrc⟩ := hk12 (by decide)
                have h0 : c' ≠ 0 := by
                  rcases hm with hm | hm
                  · exact kML0 _ (klk_mem hm.1)
                  · exact (kMN0 _ (klk_mem hm)).1
                obtain ⟨-, w1, w2, w3⟩ := kmeth c' hc' h0
                obtain ⟨⟨w11, w12, w13, w14, w15⟩, w4, w5, w6, w7⟩ := w1
                obtain ⟨w71, w72, w73, w74, w75⟩ := w7 hci
                have hw : Cond.methodLink (kon (kaq c).2.2.2.2) i (kaq c').1 ∈ kG ∨ ((kaq c).2.2.2.2, i, c') ∈ kMN ∧ kyn c' = (kaq c').1 := by
                  rcases hm with hm | hm
                  · have hw := kMLw _ (klk_mem hm.1)
                    left
                    rw [← kyn_lt hm.2]
                    exact hw
                  · exact Or.inr ⟨klk_mem hm, kyn_lt (by omega)⟩
                have hrt : (kaq c').2.2.2.1 = none := by
                  have h5 := krt c' hc'
                  rw [hk1 rfl] at h5
                  exact h5
                obtain ⟨b, fs, hv, hb⟩ := krcv_inv hrc
                cases vs with
                | nil => cases hv
                | cons v0 vs =>
                  have hv0 : v0 = .inr (.inr (.inl (some b))) := Option.some.inj hv
                  subst hv0
                  have hpa : (parseMethodDescriptor (kaq c').1.desc).map (fun d => d.parameters.length) = some vs.length := by
                    obtain ⟨dd, hdd, hdl⟩ := Option.map_eq_some_iff.mp w72
                    rw [hdd]
                    rw [List.length_cons] at hna
                    have : dd.parameters.length + 1 = vs.length + 1 := by rw [hna]; exact hdl
                    simp
                    omega
                  rw [hst0, List.reverse_cons, List.append_assoc]
                  intro H ls locs hH hL hst hS hn hm2
                  exact kz_callI hC hd ho hw w11 w12 ⟨w14, w15⟩ w71 (kinvI hc hget) hrt hpa w4 (met h0 (fun v hv => hst v (by
                    rcases List.mem_cons.mp hv with rfl | hv
                    · exact List.mem_append_right _ List.mem_cons_self
                    · exact List.mem_append_left _ (List.mem_reverse.mpr hv)))) hf2 hl2 hc2 hs2 hwt g1.1 g1.2 kk H ls locs hH hL hst hS hn hm2
              · obtain ⟨i, rfl, hm, hlt⟩ := kres_V hres
                obtain rfl := kl1 (k := 2) hlen rfl
                obtain ⟨hci, hrc⟩ := hk12 (by decide)
                have h0 : c' ≠ 0 := kML0 _ (klk_mem hm)
                obtain ⟨-, w1, w2, w3⟩ := kmeth c' hc' h0
                obtain ⟨⟨w11, w12, w13, w14, w15⟩, w4, w5, w6, w7⟩ := w1
                obtain ⟨w71, w72, w73, w74, w75⟩ := w7 hci
                have hw := kMLw _ (klk_mem hm)
                have hw2 : Cond.methodLink (kon (kaq c).2.2.2.2) i (kaq c').1 ∈ kG := by rw [← kyn_lt hlt]; exact hw
                obtain ⟨b, fs, hv, hb⟩ := krcv_inv hrc
                cases vs with
                | nil => cases hv
                | cons v0 vs =>
                  have hv0 : v0 = .inr (.inr (.inl (some b))) := Option.some.inj hv
                  subst hv0
                  have hpa : (parseMethodDescriptor (kaq c').1.desc).map (fun d => d.parameters.length) = some vs.length := by
                    obtain ⟨dd, hdd, hdl⟩ := Option.map_eq_some_iff.mp w72
                    rw [hdd]
                    rw [List.length_cons] at hna
                    have : dd.parameters.length + 1 = vs.length + 1 := by rw [hna]; exact hdl
                    simp
                    omega
                  rw [hst0, List.reverse_cons, List.append_assoc]
                  intro H ls locs hH hL hst hS hn hm2
                  exact kz_callV hC hd ho hw2 w11 w12 ⟨w14, w15⟩ w71 (w75 (kinvV hc hget)) hpa w4 w73 w74 hb (met h0 (fun v hv => hst v (by
                    rcases List.mem_cons.mp hv with rfl | hv
                    · exact List.mem_append_right _ List.mem_cons_self
                    · exact List.mem_append_left _ (List.mem_reverse.mpr hv)))) hf2 hl2 hc2 hs2 hwt g1.1 g1.2 kk H ls locs hH hL hst hS hn hm2
