/-! cells that were never made are none -/
def cln (h : kH) : Prop := ∀ a, h.1 ≤ a → h.2.2 a = none
theorem cln_put {h : kH} {a : Nat} {x e : kE} (ha : h.2.2 a = some x) (hc : cln h) : cln (kput h a e) := by
  intro b hb
  have hb' : h.1 ≤ b := hb
  have h1 := hc b hb'
  rw [kput_n h e (fun q => by rw [q, ha] at h1; cases h1)]
  exact h1
theorem cln_add {h : kH} {z : Nat} {e : kE} (hc : cln h) : cln (kadd h z e) := by
  intro b hb
  have hb' : h.1 + 1 ≤ b := hb
  show (if b = h.1 then some e else h.2.2 b) = none
  rw [if_neg (by omega)]
  exact hc b (by omega)
theorem kst_cln {fk : Nat → List Nat} {sx : Nat → List Int} {ins : Instr} {pc pc' : Nat} {L L1 : kLs} {st st' : List kV} {h h' : kH} (hc : cln h) (hk : kst fk sx ins pc L st h = some (pc', L1, st', h')) : cln h' := by
  cases ins <;> first
    | (cases hk; done)
    | (unfold kst at hk
       dsimp only at hk
       repeat' split at hk
       all_goals first
         | (cases hk; done)
         | (cases hk; exact hc)
         | (cases hk; exact cln_add hc)
         | (cases hk; exact cln_put (by assumption) hc))
theorem kx_cln {sc : List Int} : ∀ (n d : Nat) (cd : List Instr) (rk pc : Nat) (L : kLs) (st : List kV) (h : kH) (r : Option kV × kH), cln h → kx kfk (ksx sc) kms n d cd rk pc L st h = some r → cln r.2 := by
  intro n
  induction n with
  | zero => intro d cd rk pc L st h r hc hr; cases hr
  | succ n ih =>
    intro d cd rk pc L st h r hc hr
    rw [kx] at hr
    cases hget : cd[pc]? with
    | none => rw [hget] at hr; cases hr
    | some ins =>
      rw [hget] at hr
      dsimp only at hr
      cases hce : kcallee ins with
      | none =>
        rw [hce] at hr
        dsimp only at hr
        cases hre : kret rk ins st with
        | some rv2 => rw [hre] at hr; cases hr; exact hc
        | none =>
          rw [hre] at hr
          dsimp only at hr
          cases hk : kst kfk (ksx sc) ins pc L st h with
          | none => rw [hk] at hr; cases hr
          | some q =>
            rw [hk] at hr
            obtain ⟨pc', L1, st', h'⟩ := q
            exact ih _ _ _ _ _ _ _ _ (kst_cln hc hk) hr
      | some q =>
        rw [hce] at hr
        dsimp only at hr
        cases d with
        | zero => cases hr
        | succ d =>
          cases hcall : kcall kms ins st h with
          | none => rw [hcall] at hr; cases hr
          | some q =>
            rw [hcall] at hr
            obtain ⟨c2, cd2, rk2, L2, rest⟩ := q
            dsimp only at hr
            cases hin : kx kfk (ksx sc) kms n d cd2 rk2 0 L2 [] h with
            | none => rw [hin] at hr; cases hr
            | some q =>
              rw [hin] at hr
              obtain ⟨rv, h2⟩ := q
              dsimp only at hr
              exact ih _ _ _ _ _ _ _ _ (ih _ _ _ _ _ _ _ _ hc hin) hr
theorem kR_cln {sc : List Int} {d c : Nat} {vs : List kV} {h h' : kH} {rv : Option kV} (hc : cln h) (k : kR sc d c vs h rv h') : cln h' := by
  obtain ⟨n, r, g, h1, h2, h3⟩ := k
  have := kx_cln _ _ _ _ _ _ _ _ _ hc h1
  rw [← h3]
  exact this
theorem kInit_cln {sc : List Int} {Inv : kH → Prop} (k : kInit sc (fun h => cln h → Inv h)) : kInit sc Inv := by
  obtain ⟨h1, h2, k1, e1, k2, hI, b1, b2⟩ := k
  have c0 : cln kNewK := by
    intro a ha
    have ha' : 1 ≤ a := ha
    show (if a = 0 then _ else none) = none
    rw [if_neg (by omega)]
  have c1 := kR_cln c0 k1
  have c2 : cln (kNewM h1) := cln_add c1
  have c3 := kR_cln c2 k2
  exact ⟨h1, h2, k1, e1, k2, hI c3, b1, b2⟩
/-- the flat memory of a heap of the form -/
def sOf (g : kH) : kM := fun a => if a = 900 then (fun j => if j = 1 then (g.2.1 : Int) else 0) else if a = 56 then (fun _ => -1) else match ktab a with
  | some _ => ar g a
  | none => ob g a
theorem tab_all : ∀ a : Fin 125, (ktab a.val).isSome = true ∨ (kotab a.val).isSome = true ∨ a.val = 10 ∨ a.val = 56 := by decide
theorem hH_sOf {g : kH} (hw : kWF g) (hc : cln g) (h1 : g.1 = 125) (h56 : g.2.2 56 = some (.inr (.inl (4, 6, fun _ => none)))) : g = hH (sOf g) := by
  have e900 : sOf g 900 = fun j => if j = 1 then (g.2.1 : Int) else 0 := by unfold sOf; rw [if_pos rfl]
  have e56 : sOf g 56 = fun _ => -1 := by unfold sOf; rw [if_neg (by decide), if_pos rfl]
  have eA : ∀ a q, ktab a = some q → sOf g a = ar g a := by
    intro a q hq
    have hl := ktab_lt hq
    have hne : a ≠ 56 := fun z => by subst z; cases hq
    unfold sOf
    rw [if_neg (by omega), if_neg hne, hq]
  have eO : ∀ a q, kotab a = some q → sOf g a = ob g a := by
    intro a q hq
    have hl := kotab_lt hq
    have hne : a ≠ 56 := fun z => by subst z; cases hq
    unfold sOf
    rw [if_neg (by omega), if_neg hne]
    cases hk : ktab a with
    | some z => exact (ktab_kotab hk hq).elim
    | none => rfl
  obtain ⟨n, z, f⟩ := g
  have h1' : n = 125 := h1
  subst h1'
  unfold hH
  rw [e900]
  show (125, z, f) = (125 + 2 * (if (0 : Nat) = 1 then (z : Int) else 0).toNat, (if (1 : Nat) = 1 then (z : Int) else 0).toNat, hC (sOf (125, z, f)))
  rw [if_neg (by decide), if_pos rfl, Int.toNat_natCast]
  show (125, z, f) = (125, z, hC (sOf (125, z, f)))
  congr 2
  funext a
  unfold hC
  rw [e900, e56]
  cases hk : ktab a with
  | some q =>
    obtain ⟨k, m⟩ := q
    dsimp only
    rw [eA a _ hk]
    exact hw.1 a k m hk
  | none =>
    dsimp only
    cases ho : kotab a with
    | some q =>
      dsimp only
      rw [eO a _ ho]
      exact hw.2.1 a q ho
    | none =>
      dsimp only
      by_cases h10 : a = 10
      · rw [if_pos h10, h10]
        refine hw.2.2.trans ?_
        congr 5
        funext j
        by_cases j0 : j = 0
        · rw [if_pos j0, if_pos (by omega), j0]
        · by_cases j1 : j = 1
          · rw [if_neg j0, if_pos j1, if_pos (by omega), j1]
          · by_cases j2 : j = 2
            · rw [if_neg j0, if_neg j1, if_pos j2, if_pos (by omega), j2]
            · by_cases j3 : j = 3
              · rw [if_neg j0, if_neg j1, if_neg j2, if_pos j3, if_pos (by omega), j3]
              · rw [if_neg j0, if_neg j1, if_neg j2, if_neg j3, if_neg (by omega)]
      · rw [if_neg h10]
        by_cases h56' : a = 56
        · rw [if_pos h56', h56']
          exact h56
        · rw [if_neg h56']
          by_cases hlt : a < 125
          · exfalso
            rcases tab_all ⟨a, hlt⟩ with q | q | q | q
            · rw [hk] at q; cases q
            · rw [ho] at q; cases q
            · exact h10 q
            · exact h56' q
          · rw [if_neg hlt, if_neg (by simp; omega)]
            exact hc a (by show 125 ≤ a; omega)
theorem ob_of {h : kH} {a ci : Nat} {l : List kV} (hh : h.2.2 a = some (.inr (.inr (ci, l)))) (k : Nat) : ob h a k = match l.getD k (kI 0) with
    | .inl x => x
    | .inr (.inl x) => x
    | _ => 0 := by
  unfold ob
  rw [hh]
  rfl
theorem ar_of {h : kH} {a k n : Nat} {f : Nat → Int} (hh : h.2.2 a = some (.inl (k, n, f))) : ar h a = f := by
  unfold ar
  rw [hh]
