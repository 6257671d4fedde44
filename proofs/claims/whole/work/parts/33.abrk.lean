/-! THE BRACKET: pieces that hang together, by labels and by the ends of strings -/
def jn (lb : Nat → Nat) (a b : Nat) : Nat → Nat := fun q => if lb q = lb b then lb a else lb q
def cls (lb : Nat → Nat) (N : Nat) : Nat := cq (fun q => decide (lb q = q)) N
def Lab (N : Nat) (lb : Nat → Nat) : Prop := ∀ q, q < N → lb q < N ∧ lb (lb q) = lb q
theorem jn_lab {N : Nat} {lb : Nat → Nat} (h : Lab N lb) {a b : Nat} (ha : a < N) : Lab N (jn lb a b) := by
  intro q hq
  have h1 := h q hq
  have h2 := h a ha
  unfold jn
  by_cases c : lb q = lb b
  · rw [if_pos c]
    refine ⟨h2.1, ?_⟩
    split
    · rfl
    · exact h2.2
  · rw [if_neg c]
    refine ⟨h1.1, ?_⟩
    rw [if_neg (by rw [h1.2]; exact c)]
    exact h1.2
theorem jn_eq {lb : Nat → Nat} {a b : Nat} (h : lb a = lb b) : jn lb a b = lb := by
  funext q
  unfold jn
  split
  · rename_i c
    rw [h, c]
  · rfl
theorem cq_c {P Q : Nat → Bool} : ∀ n, (∀ q, q < n → P q = Q q) → cq P n = cq Q n
  | 0, _ => rfl
  | n + 1, h => by rw [cq_succ, cq_succ, cq_c n (fun q hq => h q (by omega)), h n (by omega)]
theorem jn_cls {N : Nat} {lb : Nat → Nat} (h : Lab N lb) {a b : Nat} (ha : a < N) (hb : b < N) (hab : lb a ≠ lb b) : cls (jn lb a b) N + 1 = cls lb N := by
  have h2 := h a ha
  have h3 := h b hb
  have e1 : cls lb N = cq (ins (fun q => decide (jn lb a b q = q)) (lb b)) N := by
    refine cq_c N (fun q hq => ?_)
    unfold ins jn
    by_cases c1 : q = lb b
    · rw [decide_eq_true c1, Bool.or_true, c1, decide_eq_true h3.2]
    · rw [decide_eq_false c1, Bool.or_false]
      dsimp only
      by_cases c2 : lb q = lb b
      · rw [if_pos c2, decide_eq_false (fun z => c1 (by rw [← z, c2])), decide_eq_false]
        intro z
        rw [← z, h2.2] at c2
        exact hab c2
      · rw [if_neg c2]
  have h4 : ¬ (fun q => decide (jn lb a b q = q)) (lb b) = true := by
    dsimp only
    unfold jn
    rw [if_pos h3.2, decide_eq_true_eq]
    exact hab
  rw [e1, cq_ins h4, if_pos h3.1]
  rfl
/-- free ends: the other end of their string; labels tell strings apart -/
def Jv (N : Nat) (F : Nat → Prop) (lb oth : Nat → Nat) : Prop := ∀ x, F x → (x < 2 * N ∧ F (oth x) ∧ oth (oth x) = x ∧ oth x ≠ x) ∧ ∀ y, F y → (lb (x / 2) = lb (y / 2) ↔ y = x ∨ y = oth x)
def cutF (F : Nat → Prop) (x y : Nat) : Nat → Prop := fun z => F z ∧ z ≠ x ∧ z ≠ y
def tieO (oth : Nat → Nat) (x y : Nat) : Nat → Nat := fun e => if e = oth y then oth x else if e = oth x then oth y else oth e
theorem J_same {N : Nat} {F : Nat → Prop} {lb oth : Nat → Nat} (h : Jv N F lb oth) {x y : Nat} (hx : F x) (hy : F y) (hxy : x ≠ y) : oth x = y ↔ lb (x / 2) = lb (y / 2) := by
  have h1 := (h x hx).2 y hy
  rw [h1]
  constructor
  · intro q
    exact Or.inr q.symm
  · rintro (q | q)
    · exact absurd q.symm hxy
    · exact q.symm
theorem J_close {N : Nat} {F : Nat → Prop} {lb oth : Nat → Nat} (h : Jv N F lb oth) {x y : Nat} (hx : F x) (hc : oth x = y) : Jv N (cutF F x y) lb oth := by
  rintro z ⟨hz, z1, z2⟩
  obtain ⟨⟨a1, a2, a3, a4⟩, a5⟩ := h z hz
  obtain ⟨⟨b1, b2, b3, b4⟩, b5⟩ := h x hx
  refine ⟨⟨a1, ⟨a2, ?_, ?_⟩, a3, a4⟩, fun w hw => a5 w hw.1⟩
  · intro q
    rw [q, hc] at a3
    exact z2 a3.symm
  · intro q
    rw [q, ← hc, b3] at a3
    exact z1 a3.symm
theorem J_merge {N : Nat} {F : Nat → Prop} {lb oth : Nat → Nat} (h : Jv N F lb oth) {x y : Nat} (hx : F x) (hy : F y) (hxy : x ≠ y) (hc : oth x ≠ y) : Jv N (cutF F x y) (jn lb (x / 2) (y / 2)) (tieO oth x y) := by
  obtain ⟨⟨b1, b2, b3, b4⟩, b5⟩ := h x hx
  obtain ⟨⟨c1, c2, c3, c4⟩, c5⟩ := h y hy
  have n1 : oth y ≠ x := fun q => hc (by rw [← q, c3])
  have n2 : oth x ≠ oth y := fun q => hxy (by rw [← b3, q, c3])
  have lab : ∀ z, F z → z ≠ x → z ≠ y → (lb (z / 2) = lb (x / 2) ↔ z = oth x) ∧ (lb (z / 2) = lb (y / 2) ↔ z = oth y) := by
    intro z hz z1 z2
    have q1 := b5 z hz
    have q2 := c5 z hz
    constructor
    · constructor
      · intro e
        rcases q1.mp e.symm with r | r
        · exact absurd r z1
        · exact r
      · intro e
        exact (q1.mpr (Or.inr e)).symm
    · constructor
      · intro e
        rcases q2.mp e.symm with r | r
        · exact absurd r z2
        · exact r
      · intro e
        exact (q2.mpr (Or.inr e)).symm
  have lxy : lb (x / 2) ≠ lb (y / 2) := fun q => hc ((J_same h hx hy hxy).mpr q)
  rintro z ⟨hz, z1, z2⟩
  obtain ⟨⟨a1, a2, a3, a4⟩, a5⟩ := h z hz
  obtain ⟨l1, l2⟩ := lab z hz z1 z2
  refine ⟨⟨a1, ?_, ?_, ?_⟩, ?_⟩
  · unfold tieO
    by_cases e1 : z = oth y
    · rw [if_pos e1]
      exact ⟨b2, b4, hc⟩
    · rw [if_neg e1]
      by_cases e2 : z = oth x
      · rw [if_pos e2]
        exact ⟨c2, n1, c4⟩
      · rw [if_neg e2]
        refine ⟨a2, fun q => e2 (by rw [← a3, q]), fun q => e1 (by rw [← a3, q])⟩
  · unfold tieO
    by_cases e1 : z = oth y
    · rw [if_pos e1, if_neg n2, if_pos rfl, e1]
    · rw [if_neg e1]
      by_cases e2 : z = oth x
      · rw [if_pos e2, if_pos rfl, e2]
      · rw [if_neg e2, if_neg (fun q => z2 (by rw [← a3, q, c3])), if_neg (fun q => z1 (by rw [← a3, q, b3]))]
        exact a3
  · unfold tieO
    by_cases e1 : z = oth y
    · rw [if_pos e1, e1]
      exact n2
    · rw [if_neg e1]
      by_cases e2 : z = oth x
      · rw [if_pos e2, e2]
        exact Ne.symm n2
      · rw [if_neg e2]
        exact a4
  · rintro w ⟨hw, w1, w2⟩
    obtain ⟨m1, m2⟩ := lab w hw w1 w2
    have a6 := a5 w hw
    unfold tieO jn
    by_cases e1 : z = oth y
    · rw [if_pos (l2.mpr e1), if_pos e1]
      by_cases f1 : w = oth y
      · rw [if_pos (m2.mpr f1)]
        exact ⟨fun _ => Or.inl (by rw [f1, e1]), fun _ => rfl⟩
      · rw [if_neg (fun q => f1 (m2.mp q))]
        constructor
        · intro q
          exact Or.inr (m1.mp q.symm)
        · rintro (q | q)
          · exact absurd (by rw [q, e1]) f1
          · exact (m1.mpr q).symm
    · rw [if_neg (fun q => e1 (l2.mp q)), if_neg e1]
      by_cases f1 : w = oth y
      · rw [if_pos (m2.mpr f1), l1]
        by_cases e2 : z = oth x
        · rw [if_pos e2]
          exact ⟨fun _ => Or.inr f1, fun _ => e2⟩
        · rw [if_neg e2]
          constructor
          · intro q
            exact absurd q e2
          · rintro (q | q)
            · exact absurd (by rw [← q, f1]) e1
            · exfalso
              apply z2
              rw [← a3, ← q, f1, c3]
      · rw [if_neg (fun q => f1 (m2.mp q)), a6]
        by_cases e2 : z = oth x
        · rw [if_pos e2, e2, b3]
          constructor
          · rintro (q | q)
            · exact Or.inl q
            · exact absurd q w1
          · rintro (q | q)
            · exact Or.inl q
            · exact absurd q f1
        · rw [if_neg e2]
/-! one bridge -/
def aOC (A : zA) (b : Nat) : Nat := en A (oA A b) 1
def aOG (A : zA) (b : Nat) : Nat := en A (oA A b) 0
def aUC (A : zA) (b : Nat) : Nat := en A (uA A b) 1
def aUG (A : zA) (b : Nat) : Nat := en A (uA A b) 0
def pvA (A : zA) (p : Nat) : Nat := pv (aF A) (aN A) p
theorem end_2 (A : zA) (b : Nat) : aOC A b / 2 = pvA A (oA A b) ∧ aOG A b / 2 = oA A b ∧ aUC A b / 2 = pvA A (uA A b) ∧ aUG A b / 2 = uA A b := by
  unfold aOC aOG aUC aUG en pvA
  rw [if_neg (by decide), if_pos rfl, if_neg (by decide), if_pos rfl]
  omega
/-- labels and closings behind the two ways -/
def L1 (A : zA) (b : Nat) (lb : Nat → Nat) : Nat → Nat := jn (jn lb (pvA A (oA A b)) (uA A b)) (pvA A (uA A b)) (oA A b)
def L2 (A : zA) (b : Nat) (lb : Nat → Nat) : Nat → Nat := jn (jn lb (pvA A (oA A b)) (pvA A (uA A b))) (oA A b) (uA A b)
def eqn (a b : Nat) : Nat := if a = b then 1 else 0
def cl1 (A : zA) (b : Nat) (lb : Nat → Nat) : Nat := eqn (lb (pvA A (oA A b))) (lb (uA A b)) + eqn (jn lb (pvA A (oA A b)) (uA A b) (pvA A (uA A b))) (jn lb (pvA A (oA A b)) (uA A b) (oA A b))
def cl2 (A : zA) (b : Nat) (lb : Nat → Nat) : Nat := eqn (lb (pvA A (oA A b))) (lb (pvA A (uA A b))) + eqn (jn lb (pvA A (oA A b)) (pvA A (uA A b)) (oA A b)) (jn lb (pvA A (oA A b)) (pvA A (uA A b)) (uA A b))
def fre (A : zA) (b : Nat) : Nat → Prop := fun x => x < 2 * aN A ∧ b ≤ bre A x
theorem ends_d {A : zA} (hA : okA A) {b : Nat} (hb : pb A b = true) : (aOC A b ≠ aOG A b ∧ aOC A b ≠ aUC A b ∧ aOC A b ≠ aUG A b ∧ aOG A b ≠ aUC A b ∧ aOG A b ≠ aUG A b ∧ aUC A b ≠ aUG A b) ∧ (fre A b (aOC A b) ∧ fre A b (aOG A b) ∧ fre A b (aUC A b) ∧ fre A b (aUG A b)) ∧ ∀ x, fre A b x → x ≠ aOC A b → x ≠ aOG A b → x ≠ aUC A b → x ≠ aUG A b → fre A (b + 1) x := by
  obtain ⟨-, h2, -, h4⟩ := oA_lt hA hb
  obtain ⟨-, -, x3, x4⟩ := tn_o hA hb
  have hou : oA A b ≠ uA A b := fun q => by rw [q] at x3; omega
  have P : ∀ k, k < 2 → plc A (en A (oA A b) k) = oA A b ∧ en A (oA A b) k % 2 = k := fun k hk => plc_en hA.1 h2 hk
  have Q : ∀ k, k < 2 → plc A (en A (uA A b) k) = uA A b ∧ en A (uA A b) k % 2 = k := fun k hk => plc_en hA.1 h4 hk
  have dif : ∀ k l, k < 2 → l < 2 → en A (oA A b) k ≠ en A (uA A b) l := fun k l hk hl q => hou (by rw [← (P k hk).1, q, (Q l hl).1])
  have d0 : en A (oA A b) 1 ≠ en A (oA A b) 0 := fun q => by have := (P 0 (by omega)).2; rw [← q, (P 1 (by omega)).2] at this; omega
  have d1 : en A (uA A b) 1 ≠ en A (uA A b) 0 := fun q => by have := (Q 0 (by omega)).2; rw [← q, (Q 1 (by omega)).2] at this; omega
  have bo : ∀ k, k < 2 → bre A (en A (oA A b) k) = b ∧ bre A (en A (uA A b) k) = b := fun k hk => by
    unfold bre
    rw [(P k hk).1, (Q k hk).1, x3, x4]
    omega
  refine ⟨⟨d0, dif _ _ (by omega) (by omega), dif _ _ (by omega) (by omega), dif _ _ (by omega) (by omega), dif _ _ (by omega) (by omega), d1⟩, ⟨⟨en_lt hA.1 h2, by rw [show bre A (aOC A b) = b from (bo 1 (by omega)).1]; exact Nat.le_refl _⟩, ⟨en_lt hA.1 h2, by rw [show bre A (aOG A b) = b from (bo 0 (by omega)).1]; exact Nat.le_refl _⟩, ⟨en_lt hA.1 h4, by rw [show bre A (aUC A b) = b from (bo 1 (by omega)).2]; exact Nat.le_refl _⟩, ⟨en_lt hA.1 h4, by rw [show bre A (aUG A b) = b from (bo 0 (by omega)).2]; exact Nat.le_refl _⟩⟩, ?_⟩
  rintro x ⟨hx, hbx⟩ n1 n2 n3 n4
  refine ⟨hx, ?_⟩
  by_cases he : bre A x = b
  · exfalso
    have hpl := plc_lt hA.1 hx
    have hee := en_plc hA.1 hx
    have hb2 : ap A (plc A x) / 2 = b := he
    have k2 : x % 2 = 0 ∨ x % 2 = 1 := by omega
    by_cases hv : ap A (plc A x) % 2 = 1
    · have hp : plc A x = oA A b := hA.1.2.2.2.2 _ _ hpl h2 (by omega)
      rw [hp] at hee
      rcases k2 with k2 | k2
      · rw [k2] at hee
        exact n2 hee.symm
      · rw [k2] at hee
        exact n1 hee.symm
    · have hp : plc A x = uA A b := hA.1.2.2.2.2 _ _ hpl h4 (by omega)
      rw [hp] at hee
      rcases k2 with k2 | k2
      · rw [k2] at hee
        exact n4 hee.symm
      · rw [k2] at hee
        exact n3 hee.symm
  · omega
theorem Jv_sub {N : Nat} {F G : Nat → Prop} {lb oth : Nat → Nat} (h : Jv N F lb oth) (h1 : ∀ x, G x → F x) (h2 : ∀ x, G x → G (oth x)) : Jv N G lb oth := fun x hx => ⟨⟨(h x (h1 x hx)).1.1, h2 x hx, (h x (h1 x hx)).1.2.2⟩, fun y hy => (h x (h1 x hx)).2 y (h1 y hy)⟩
theorem Jv_iff {N : Nat} {F G : Nat → Prop} {lb oth : Nat → Nat} (h : Jv N F lb oth) (h1 : ∀ x, G x ↔ F x) : Jv N G lb oth := Jv_sub h (fun x hx => (h1 x).mp hx) (fun x hx => (h1 _).mpr (h x ((h1 x).mp hx)).1.2.1)
