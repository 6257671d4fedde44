/-! SEARCH: situations as they come one from another, once for both sides -/
abbrev zE : Type := zA × Int × Nat
abbrev zS : Type := List zE × Option (Option (Nat × Nat))
def smb (B C : zA) : Bool := decide (aN B = aN C ∧ aF B = aF C ∧ ∀ j, j < aN B → ap B j = ap C j)
def oldb (l : List zE) (B : zA) : Bool := l.any (fun e => smb e.1 B)
/-- the situation B comes, from situation k by move m -/
def cmf (x : zS) (B : zA) (k m : Nat) : zS := if oldb x.1 B = true then x else if aN B = 0 then (x.1, some (some (k, m))) else if x.1.length = 300 then (x.1, some none) else (x.1 ++ [(B, (k : Int), m)], none)
def rnn (x : zS) : Bool := x.2.isNone
def inF (A : zA) (k : Nat) (x : zS) : Nat → zS
  | 0 => x
  | m + 1 => if (rnn (inF A k x m) && PK A (2 * aN A) m) = true then cmf (inF A k x m) (mvA A m) k m else inF A k x m
theorem inF_s (A : zA) (k : Nat) (x : zS) (m : Nat) : inF A k x (m + 1) = if (rnn (inF A k x m) && PK A (2 * aN A) m) = true then cmf (inF A k x m) (mvA A m) k m else inF A k x m := rfl
def goF (x : zS) (k : Nat) : zS := match x.1[k]? with
  | none => x
  | some e => if rnn x = true then inF e.1 k x 1463 else x
theorem goF_n {x : zS} {k : Nat} (h : x.1.length ≤ k) : goF x k = x := by
  unfold goF
  rw [List.getElem?_eq_none h]
theorem goF_e {x : zS} {k : Nat} {e : zE} (h : x.1[k]? = some e) (hr : rnn x = true) : goF x k = inF e.1 k x 1463 := by
  unfold goF
  rw [h]
  show (if rnn x = true then _ else _) = _
  rw [if_pos hr]
theorem goF_x {x : zS} {k : Nat} (hr : ¬ rnn x = true) : goF x k = x := by
  unfold goF
  cases h : x.1[k]? with
  | none => rfl
  | some e =>
    show (if rnn x = true then _ else _) = _
    rw [if_neg hr]
def otF (x : zS) : Nat → zS
  | 0 => x
  | k + 1 => goF (otF x k) k
theorem otF_s (x : zS) (k : Nat) : otF x (k + 1) = goF (otF x k) k := rfl
def sr0 (A : zA) : zS := ([(A, -1, 0)], none)
def srs (A : zA) : zS := otF (sr0 A) 300
theorem ot_st {x : zS} {k : Nat} (h : ¬ rnn (otF x k) = true ∨ (otF x k).1.length ≤ k) : ∀ d, otF x (k + d) = otF x k
  | 0 => rfl
  | d + 1 => by
    have ih := ot_st h d
    rw [← Nat.add_assoc, otF_s, ih]
    rcases h with h | h
    · exact goF_x h
    · exact goF_n (by omega)
theorem in_same {A : zA} {k : Nat} {x : zS} {m : Nat} : ∀ d, cq (PK A (2 * aN A)) (m + d) = cq (PK A (2 * aN A)) m → inF A k x (m + d) = inF A k x m
  | 0, _ => rfl
  | d + 1, h => by
    rw [← Nat.add_assoc, cq_succ] at h
    have hm := cq_mono (PK A (2 * aN A)) (m := m) (m + d) (by omega)
    have hP : ¬ PK A (2 * aN A) (m + d) = true := fun hp => by
      rw [if_pos hp] at h
      omega
    rw [if_neg hP] at h
    rw [← Nat.add_assoc, inF_s, if_neg (fun z => hP ((Bool.and_eq_true_iff.mp z).2))]
    exact in_same d h
theorem in_stop {A : zA} {k : Nat} {x : zS} {m : Nat} (h : ¬ rnn (inF A k x m) = true) : ∀ d, inF A k x (m + d) = inF A k x m
  | 0 => rfl
  | d + 1 => by
    have ih := in_stop h d
    rw [← Nat.add_assoc, inF_s, ih, if_neg (fun z => h ((Bool.and_eq_true_iff.mp z).1))]
theorem cmf_pre {x : zS} {B : zA} {k m j : Nat} {e : zE} (h : x.1[j]? = some e) : (cmf x B k m).1[j]? = some e := by
  have hl := (List.getElem?_eq_some_iff.mp h).1
  unfold cmf
  split
  · exact h
  · split
    · exact h
    · split
      · exact h
      · show (x.1 ++ [(B, (k : Int), m)])[j]? = some e
        rw [List.getElem?_append_left hl]
        exact h
/-- what holds of all situations that have come -/
def SI (G : zA → Prop) (x : zS) : Prop := x.1.length ≤ 300 ∧ (∀ (j : Nat) (e : zE), x.1[j]? = some e → G e.1 ∧ 0 < aN e.1 ∧ (j = 0 → e.2.1 = -1) ∧ (0 < j → 0 ≤ e.2.1 ∧ e.2.1 < (j : Int) ∧ e.2.2 < 1463)) ∧ ∀ k m, x.2 = some (some (k, m)) → m < 1463 ∧ ∃ e, x.1[k]? = some e ∧ PK e.1 (2 * aN e.1) m = true ∧ aN (mvA e.1 m) = 0
theorem SI_cm {G : zA → Prop} {x : zS} {B : zA} {k m : Nat} {e : zE} (hG : G B) (h : SI G x) (hk : x.1[k]? = some e) (hm : m < 1463) (hP : PK e.1 (2 * aN e.1) m = true) (hB : B = mvA e.1 m) : SI G (cmf x B k m) := by
  obtain ⟨h1, h2, h3⟩ := h
  have hkl : k < x.1.length := (List.getElem?_eq_some_iff.mp hk).1
  unfold cmf
  split
  · exact ⟨h1, h2, h3⟩
  · split
    · rename_i c0
      refine ⟨h1, h2, fun k' m' hx => ?_⟩
      injection hx with hx
      injection hx with hx
      injection hx with hx1 hx2
      subst hx1
      subst hx2
      exact ⟨hm, e, hk, hP, by rw [← hB]; exact c0⟩
    · split
      · exact ⟨h1, h2, fun k' m' hx => (by cases hx)⟩
      · rename_i cn cl
        refine ⟨?_, fun j d hd => ?_, fun k' m' hx => (by cases hx)⟩
        · show (x.1 ++ [(B, (k : Int), m)]).length ≤ 300
          rw [List.length_append]
          show x.1.length + 1 ≤ 300
          omega
        · have hd' : (x.1 ++ [(B, (k : Int), m)])[j]? = some d := hd
          by_cases hj : j < x.1.length
          · rw [List.getElem?_append_left hj] at hd'
            exact h2 j d hd'
          · rw [List.getElem?_append_right (by omega)] at hd'
            by_cases hj2 : j = x.1.length
            · rw [hj2, Nat.sub_self] at hd'
              have hd2 : some (B, (k : Int), m) = some d := hd'
              injection hd2 with hd3
              subst hd3
              exact ⟨hG, (show 0 < aN B by omega), fun z => (by omega), fun _ => ⟨(show (0 : Int) ≤ (k : Int) by omega), (show (k : Int) < (j : Int) by omega), hm⟩⟩
            · rw [List.getElem?_eq_none (show [(B, (k : Int), m)].length ≤ j - x.1.length by show 1 ≤ _; omega)] at hd'
              cases hd'
def GM (G : zA → Prop) : Prop := ∀ B m, G B → m < 1463 → PK B (2 * aN B) m = true → G (mvA B m)
theorem SI_in {G : zA → Prop} (hG : GM G) {k : Nat} {x : zS} {e : zE} (h : SI G x) (hk : x.1[k]? = some e) : ∀ m, m ≤ 1463 → SI G (inF e.1 k x m) ∧ ∀ (j : Nat) (d : zE), x.1[j]? = some d → (inF e.1 k x m).1[j]? = some d
  | 0, _ => ⟨h, fun _ _ z => z⟩
  | m + 1, hm => by
    obtain ⟨i1, i2⟩ := SI_in hG h hk m (by omega)
    rw [inF_s]
    split
    · rename_i c
      have hP := (Bool.and_eq_true_iff.mp c).2
      refine ⟨SI_cm (e := e) (hG e.1 m (h.2.1 k e hk).1 (by omega) hP) i1 (i2 k e hk) (by omega) hP rfl, fun j d hd => cmf_pre (i2 j d hd)⟩
    · exact ⟨i1, i2⟩
theorem SI_go {G : zA → Prop} (hG : GM G) {x : zS} (h : SI G x) (k : Nat) : SI G (goF x k) ∧ ∀ (j : Nat) (d : zE), x.1[j]? = some d → (goF x k).1[j]? = some d := by
  by_cases hr : rnn x = true
  · by_cases hk : k < x.1.length
    · have he := List.getElem?_eq_getElem hk
      rw [goF_e he hr]
      exact SI_in hG h he 1463 (Nat.le_refl _)
    · rw [goF_n (by omega)]
      exact ⟨h, fun _ _ z => z⟩
  · rw [goF_x hr]
    exact ⟨h, fun _ _ z => z⟩
theorem SI_ot {G : zA → Prop} (hG : GM G) {x : zS} (h : SI G x) : ∀ k, SI G (otF x k)
  | 0 => h
  | k + 1 => (SI_go hG (SI_ot hG h k) k).1
theorem SI_0 {G : zA → Prop} {A : zA} (hA : G A) (hn : 0 < aN A) : SI G (sr0 A) := by
  refine ⟨(show 1 ≤ 300 by omega), fun j e he => ?_, fun k m hx => (by cases hx)⟩
  have he' : [((A, -1, 0) : zE)][j]? = some e := he
  by_cases hj : j = 0
  · subst hj
    have he2 : some ((A, -1, 0) : zE) = some e := he'
    injection he2 with he3
    subst he3
    exact ⟨hA, hn, fun _ => rfl, fun z => absurd z (Nat.lt_irrefl 0)⟩
  · rw [List.getElem?_eq_none (show [((A, -1, 0) : zE)].length ≤ j by show 1 ≤ _; omega)] at he'
    cases he'
/-! roads: a pass stays on its road -/
def rdo (A B : zA) : Prop := ∀ j, j < aN B → (j < aF B ↔ ∃ i, i < aF A ∧ ap A i = ap B j)
def G0 (A B : zA) : Prop := okA B ∧ aR B = aR A ∧ ah B = ah A ∧ rdo A B
theorem kp_lt {X : Nat} {A : zA} {i n : Nat} (hi : kpt X A i = true) : kp X A i < kp X A n ↔ i < n := by
  constructor
  · intro h
    by_cases hin : i < n
    · exact hin
    · have := cq_mono (kpt X A) (m := n) i (by omega)
      unfold kp at h
      omega
  · exact fun h => cq_lt h hi
theorem rdo_drp {A B : zA} {X : Nat} (h : rdo A B) : rdo A (drp X B) := by
  intro j hj
  obtain ⟨i, h1, h2, h3, h4⟩ := drp_at hj
  rw [h4, ← h i h1, ← h3]
  show kp X B i < kp X B (aF B) ↔ _
  exact kp_lt h2
theorem nx_rd {F N j : Nat} (hF : F ≤ N) (hj : j < N) : nx F N j < F ↔ j < F := by
  unfold nx
  split
  · split <;> omega
  · split <;> omega
theorem rdo_sw {A B : zA} {q : Nat} (hB : okA B) (hq : q < aN B) (h : rdo A B) : rdo A (swA B q) := by
  intro j hj
  have hj' : j < aN B := hj
  have ht := tau_lt hB.1 hq hj'
  rw [sw_ap, ← h _ ht]
  show j < aF B ↔ tau B q j < aF B
  have hn := nx_rd (okB_n hB.1).1 hq
  unfold tau
  split
  · rename_i c
    rw [hn, c]
  · split
    · rename_i c
      rw [← hn, c]
    · exact Iff.rfl
theorem mv_sl {B : zA} {m : Nat} (hB : okA B) (hm : ¬ m < 132) (hP : PK B (2 * aN B) m = true) : SK B (2 * aN B) m / 2 < aN B ∧ sgm B (SK B (2 * aN B) m) / 2 < aN B ∧ sgm B (sgm B (SK B (2 * aN B) m)) / 2 < aN B := by
  have h1 := SK_lt hB (by omega) hP
  have h2 := sgm_lt hB h1
  have h3 := sgm_lt hB h2
  omega
theorem GM_0 (A : zA) : GM (G0 A) := by
  rintro B m ⟨h1, h2, h3, h4⟩ hm hP
  refine ⟨okA_mv h1 hP, ?_, ?_, ?_⟩
  · unfold mvA
    split
    · exact h2
    · exact h2
  · unfold mvA
    split
    · exact h3
    · exact h3
  · unfold mvA
    split
    · exact rdo_drp h4
    · rename_i c
      obtain ⟨q1, q2, q3⟩ := mv_sl h1 c hP
      exact rdo_sw (okA_sw (okA_sw h1 q1) q2) q3 (rdo_sw (okA_sw h1 q1) q2 (rdo_sw h1 q1 h4))
theorem G0_A {A : zA} (hA : okA A) : G0 A A := by
  refine ⟨hA, rfl, rfl, fun j hj => ⟨fun h => ⟨j, h, rfl⟩, ?_⟩⟩
  rintro ⟨i, h1, h2⟩
  have hF := (okB_n hA.1).1
  have := hA.1.2.2.2.2 i j (by omega) hj h2
  omega
/-- the first road's length follows from the passes -/
theorem rdo_F {A B C : zA} (hB : G0 A B) (hC : G0 A C) (hn : aN B = aN C) (hp : ∀ j, j < aN B → ap B j = ap C j) : aF B = aF C := by
  have b1 := (okB_n hB.1.1).1
  have c1 := (okB_n hC.1.1).1
  have key : ∀ j, j < aN B → (j < aF B ↔ j < aF C) := fun j hj => by
    rw [hB.2.2.2 j hj, hC.2.2.2 j (by omega), hp j hj]
  by_cases h1 : aF B < aF C
  · have := key (aF B) (by omega)
    omega
  · by_cases h2 : aF C < aF B
    · have := key (aF C) (by omega)
      omega
    · omega
