/-! how many rings there can be -/
theorem jn_a (lb : Nat → Nat) (a b : Nat) : jn lb a b a = lb a ∧ jn lb a b b = lb a := by
  unfold jn
  refine ⟨?_, ?_⟩
  · split
    · rfl
    · rfl
  · rw [if_pos rfl]
theorem jn_keep {lb : Nat → Nat} {a b p q : Nat} (h : lb p = lb q) : jn lb a b p = jn lb a b q := by
  unfold jn
  rw [h]
/-- labels are finer -/
def finer (lb jl : Nat → Nat) (N : Nat) : Prop := ∀ p q, p < N → q < N → lb p = lb q → jl p = jl q
theorem fin_jn {lb jl : Nat → Nat} {N a b : Nat} (h : finer lb jl N) (ha : a < N) (hb : b < N) : finer (jn lb a b) (jn jl a b) N := by
  intro p q hp hq he
  unfold jn at he
  by_cases c1 : lb p = lb b
  · rw [if_pos c1] at he
    by_cases c2 : lb q = lb b
    · exact jn_keep (h p q hp hq (by rw [c1, c2]))
    · rw [if_neg c2] at he
      have e1 := h p b hp hb c1
      have e2 := h q a hq ha he.symm
      rw [jn_keep e1, jn_keep e2, (jn_a jl a b).1, (jn_a jl a b).2]
  · rw [if_neg c1] at he
    by_cases c2 : lb q = lb b
    · rw [if_pos c2] at he
      have e1 := h q b hq hb c2
      have e2 := h p a hp ha he
      rw [jn_keep e1, jn_keep e2, (jn_a jl a b).1, (jn_a jl a b).2]
    · rw [if_neg c2] at he
      exact jn_keep (h p q hp hq he)
theorem fin_r {lb jl : Nat → Nat} {N a b : Nat} (h : finer lb jl N) : finer lb (jn jl a b) N := fun p q hp hq he => jn_keep (h p q hp hq he)
/-- a join: by how much the classes go down -/
theorem jn_step {N : Nat} {lb : Nat → Nat} (h : Lab N lb) {a b : Nat} (ha : a < N) (hb : b < N) : cls (jn lb a b) N + 1 = cls lb N + eqn (lb a) (lb b) := by
  unfold eqn
  by_cases c : lb a = lb b
  · rw [if_pos c, jn_eq c]
  · rw [if_neg c, jn_cls h ha hb c]
    rfl
theorem eqn_fin {lb jl : Nat → Nat} {N a b : Nat} (h : finer lb jl N) (ha : a < N) (hb : b < N) : eqn (lb a) (lb b) ≤ eqn (jl a) (jl b) := by
  unfold eqn
  by_cases c : lb a = lb b
  · rw [if_pos c, if_pos (h a b ha hb c)]
    exact Nat.le_refl _
  · rw [if_neg c]
    exact Nat.zero_le _
/-- what is known of labels behind b bridges: closings c, and coarser labels that join all four pieces of a bridge -/
def IV (A : zA) (b : Nat) (lb : Nat → Nat) (c : Nat) : Prop := Lab (aN A) lb ∧ cls lb (aN A) + 2 * rw_ A b = aN A + c ∧ ∃ jl, Lab (aN A) jl ∧ finer lb jl (aN A) ∧ cls lb (aN A) ≤ cls jl (aN A) + rw_ A b ∧ ∀ p, p < aN A → ap A p / 2 < b → jl (pvA A p) = jl p
theorem IV_0 (A : zA) : IV A 0 (fun q => q) 0 := by
  refine ⟨fun q hq => ⟨hq, rfl⟩, ?_, fun q => q, fun q hq => ⟨hq, rfl⟩, fun p q _ _ h => h, by omega, fun p _ h => by omega⟩
  have : ∀ n, cls (fun q => q) n = n := by
    intro n
    unfold cls
    induction n with
    | zero => rfl
    | succ n ih => rw [cq_succ, ih, if_pos (decide_eq_true rfl)]
  rw [this]
  rfl
theorem IV_no {A : zA} {b : Nat} (hb : ¬ pb A b = true) {lb : Nat → Nat} {c : Nat} (h : IV A b lb c) : IV A (b + 1) lb c := by
  obtain ⟨h1, h2, jl, h3, h4, h5, h6⟩ := h
  have e : rw_ A (b + 1) = rw_ A b := by rw [rw_s, if_neg hb]; rfl
  unfold IV
  rw [e]
  refine ⟨h1, h2, jl, h3, h4, h5, fun p hp hlt => h6 p hp ?_⟩
  by_cases he : ap A p / 2 = b
  · exact absurd (pb_iff.mpr ⟨p, hp, he⟩) hb
  · omega
/-- two joins of four pieces, however paired -/
theorem IV_two {A : zA} (hA : okA A) {b : Nat} (hb : pb A b = true) {lb : Nat → Nat} {c : Nat} (h : IV A b lb c) {x1 y1 x2 y2 : Nat} (l1 : x1 < aN A) (l2 : y1 < aN A) (l3 : x2 < aN A) (l4 : y2 < aN A) (hj : ∀ jl : Nat → Nat, jl x1 = jl y1 → jl x2 = jl y2 → jl (pvA A (oA A b)) = jl (oA A b) → jl (pvA A (uA A b)) = jl (uA A b)) : IV A (b + 1) (jn (jn lb x1 y1) x2 y2) (c + (eqn (lb x1) (lb y1) + eqn (jn lb x1 y1 x2) (jn lb x1 y1 y2))) := by
  obtain ⟨h1, h2, jl, h3, h4, h5, h6⟩ := h
  obtain ⟨-, g2, -, g4⟩ := oA_lt hA hb
  obtain ⟨-, -, e3, e4⟩ := tn_o hA hb
  have hpo : pvA A (oA A b) < aN A := pv_lt hA.1 g2
  have e : rw_ A (b + 1) = rw_ A b + 1 := by rw [rw_s, if_pos hb]
  have s1 := jn_step h1 l1 l2
  have s2 := jn_step (jn_lab h1 (b := y1) l1) l3 l4
  have t1 := jn_step h3 l1 l2
  have t2 := jn_step (jn_lab h3 (b := y1) l1) l3 l4
  have t3 := jn_step (jn_lab (jn_lab h3 (b := y1) l1) (b := y2) l3) hpo g2
  have f1 := eqn_fin h4 l1 l2
  have f2 := eqn_fin (fin_jn h4 l1 l2) l3 l4
  unfold IV
  rw [e]
  refine ⟨jn_lab (jn_lab h1 l1) l3, by omega, jn (jn (jn jl x1 y1) x2 y2) (pvA A (oA A b)) (oA A b), jn_lab (jn_lab (jn_lab h3 l1) l3) hpo, fin_r (fin_jn (fin_jn h4 l1 l2) l3 l4), by omega, fun p hp hlt => ?_⟩
  by_cases he : ap A p / 2 < b
  · exact jn_keep (jn_keep (jn_keep (h6 p hp he)))
  · have ho : jn (jn (jn jl x1 y1) x2 y2) (pvA A (oA A b)) (oA A b) (pvA A (oA A b)) = jn (jn (jn jl x1 y1) x2 y2) (pvA A (oA A b)) (oA A b) (oA A b) := by rw [(jn_a _ _ _).1, (jn_a _ _ _).2]
    have hu := hj _ (jn_keep (a := pvA A (oA A b)) (b := oA A b) (jn_keep (a := x2) (b := y2) (show jn jl x1 y1 x1 = jn jl x1 y1 y1 by rw [(jn_a _ _ _).1, (jn_a _ _ _).2]))) (jn_keep (a := pvA A (oA A b)) (b := oA A b) (show jn (jn jl x1 y1) x2 y2 x2 = jn (jn jl x1 y1) x2 y2 y2 by rw [(jn_a _ _ _).1, (jn_a _ _ _).2])) ho
    by_cases hv : ap A p % 2 = 1
    · have : p = oA A b := hA.1.2.2.2.2 _ _ hp g2 (by omega)
      rw [this]
      exact ho
    · have : p = uA A b := hA.1.2.2.2.2 _ _ hp g4 (by omega)
      rw [this]
      exact hu
theorem IV_1 {A : zA} (hA : okA A) {b : Nat} (hb : pb A b = true) {lb : Nat → Nat} {c : Nat} (h : IV A b lb c) : IV A (b + 1) (L1 A b lb) (c + cl1 A b lb) := by
  obtain ⟨-, g2, -, g4⟩ := oA_lt hA hb
  exact IV_two hA hb h (pv_lt hA.1 g2) g4 (pv_lt hA.1 g4) g2 (fun jl q1 q2 q3 => by rw [q2, ← q3, q1])
theorem IV_2 {A : zA} (hA : okA A) {b : Nat} (hb : pb A b = true) {lb : Nat → Nat} {c : Nat} (h : IV A b lb c) : IV A (b + 1) (L2 A b lb) (c + cl2 A b lb) := by
  obtain ⟨-, g2, -, g4⟩ := oA_lt hA hb
  exact IV_two hA hb h (pv_lt hA.1 g2) (pv_lt hA.1 g4) g2 g4 (fun jl q1 q2 q3 => by rw [← q1, q3, q2])
theorem cq_le2 {P : Nat → Bool} {a b : Nat} : ∀ n, (∀ q, q < n → P q = true → q = a ∨ q = b) → cq P n ≤ (if a < n then 1 else 0) + (if b < n then 1 else 0)
  | 0, _ => Nat.zero_le _
  | n + 1, h => by
    have ih := cq_le2 (P := P) (a := a) (b := b) n (fun q hq => h q (by omega))
    rw [cq_succ]
    by_cases hp : P n = true
    · have := h n (by omega) hp
      rw [if_pos hp]
      (repeat' split at ih) <;> (repeat' split) <;> omega
    · rw [if_neg hp]
      (repeat' split at ih) <;> (repeat' split) <;> omega
/-- behind all bridges -/
theorem IV_end {A : zA} (hA : okA A) {lb : Nat → Nat} {c : Nat} (h : IV A 11 lb c) : cls lb (aN A) = c ∧ c ≤ 13 ∧ (0 < aN A → 1 ≤ c) := by
  obtain ⟨h1, h2, jl, h3, h4, h5, h6⟩ := h
  have hn := okB_n hA.1
  have hrw : rw_ A 11 = aN A / 2 := (oc_half hA).1
  have heven := (oc_half hA).2
  have all : ∀ p, p < aN A → jl (pvA A p) = jl p := fun p hp => h6 p hp (by have := hA.1.2.2.2.1 p hp; omega)
  have r0 : ∀ p, p < aF A → jl p = jl 0 := by
    intro p
    induction p with
    | zero => intro _; rfl
    | succ p ih =>
      intro hp
      have := all (p + 1) (by omega)
      unfold pvA pv at this
      rw [if_pos hp, if_neg (by omega), Nat.add_sub_cancel] at this
      rw [← this]
      exact ih (by omega)
  have r1 : ∀ d, aF A + d < aN A → jl (aF A + d) = jl (aF A) := by
    intro d
    induction d with
    | zero => intro _; rfl
    | succ d ih =>
      intro hp
      have := all (aF A + (d + 1)) hp
      unfold pvA pv at this
      rw [if_neg (by omega), if_neg (by omega), show aF A + (d + 1) - 1 = aF A + d by omega] at this
      rw [← this]
      exact ih (by omega)
  have hj2 : cls jl (aN A) ≤ 2 := by
    have := cq_le2 (P := fun q => decide (jl q = q)) (a := jl 0) (b := jl (aF A)) (aN A) (fun q hq hP => by
      have hP' := of_decide_eq_true hP
      by_cases hF : q < aF A
      · left
        rw [← r0 q hF, hP']
      · right
        have := r1 (q - aF A) (by omega)
        rw [show aF A + (q - aF A) = q by omega] at this
        rw [← this, hP'])
    unfold cls
    (repeat' split at this) <;> omega
  refine ⟨by omega, by omega, fun h0 => ?_⟩
  have hl := h1 0 h0
  have : 0 < cls lb (aN A) := by
    have := cq_lt (P := fun q => decide (lb q = q)) hl.1 (decide_eq_true hl.2)
    unfold cls
    omega
  omega
/-! sums over all choices -/
def LSm (A : zA) (φ : Nat → Nat → Int) : Nat → Nat → Nat → Nat → (Nat → Nat) → Int
  | 0, _, as, rg, _ => φ as rg
  | n + 1, b, as, rg, lb => if pb A b = true then LSm A φ n (b + 1) (as + ah A b) (rg + cl1 A b lb) (L1 A b lb) + LSm A φ n (b + 1) (as + 1 - ah A b) (rg + cl2 A b lb) (L2 A b lb) else LSm A φ n (b + 1) as rg lb
theorem LSm_s (A : zA) (φ : Nat → Nat → Int) (n b as rg : Nat) (lb : Nat → Nat) : LSm A φ (n + 1) b as rg lb = if pb A b = true then LSm A φ n (b + 1) (as + ah A b) (rg + cl1 A b lb) (L1 A b lb) + LSm A φ n (b + 1) (as + 1 - ah A b) (rg + cl2 A b lb) (L2 A b lb) else LSm A φ n (b + 1) as rg lb := rfl
/-- empty roads -/
def aln (A : zA) : Nat := (if 1 ≤ aR A ∧ aF A = 0 then 1 else 0) + (if 2 ≤ aR A ∧ aF A = aN A then 1 else 0)
theorem rg_ok {A : zA} (hA : okA A) (hR : 1 ≤ aR A) {lb : Nat → Nat} {c : Nat} (h : IV A 11 lb c) : 1 ≤ aln A + c ∧ aln A + c < 16 := by
  obtain ⟨h1, h2, h3⟩ := IV_end hA h
  have hn := okB_n hA.1
  have hal : aln A ≤ 2 := by unfold aln; (repeat' split) <;> omega
  refine ⟨?_, by omega⟩
  by_cases h0 : 0 < aN A
  · have := h3 h0
    omega
  · have : 1 ≤ aln A := by
      unfold aln
      rw [if_pos ⟨hR, by omega⟩]
      omega
    omega
/-- the class's table, summed up row by row -/
def smr (f : Nat → Int) : Nat → Int
  | 0 => 0
  | n + 1 => smr f n + f n
theorem smr_s (f : Nat → Int) (n : Nat) : smr f (n + 1) = smr f n + f n := rfl
theorem smr_add (f g : Nat → Int) : ∀ n, smr (fun i => f i + g i) n = smr f n + smr g n
  | 0 => rfl
  | n + 1 => by
    rw [smr_s, smr_s, smr_s, smr_add f g n]
    omega
theorem smr_0 {f : Nat → Int} : ∀ n, (∀ i, i < n → f i = 0) → smr f n = 0
  | 0, _ => rfl
  | n + 1, h => by rw [smr_s, smr_0 n (fun i hi => h i (by omega)), h n (by omega)]; rfl
theorem smr_1 {f : Nat → Int} {k : Nat} : ∀ n, k < n → (∀ i, i < n → i ≠ k → f i = 0) → smr f n = f k
  | 0, h, _ => by omega
  | n + 1, h, h2 => by
    rw [smr_s]
    by_cases hk : k = n
    · subst hk
      rw [smr_0 k (fun i hi => h2 i (by omega) (by omega))]
      omega
    · rw [smr_1 n (by omega) (fun i hi => h2 i (by omega)), h2 n (by omega) (fun q => hk q.symm)]
      omega
def dsm (φ : Nat → Nat → Int) (nb : Nat) (g : Nat → Nat) : Int := smr (fun as => smr (fun r => ((g (16 * as + (r + 1)) : Nat) : Int) * φ as (r + 1)) 15) (nb + 1)
theorem dsm_add (φ : Nat → Nat → Int) (nb : Nat) (g h : Nat → Nat) : dsm φ nb (fun i => g i + h i) = dsm φ nb g + dsm φ nb h := by
  unfold dsm
  rw [← smr_add]
  congr 1
  funext as
  rw [← smr_add]
  congr 1
  funext r
  rw [Int.natCast_add, Int.add_mul]
theorem dsm_LC {A : zA} (hA : okA A) (hR : 1 ≤ aR A) (φ : Nat → Nat → Int) : ∀ n b as c lb, b + n = 11 → as ≤ rw_ A b → IV A b lb c → dsm φ (aN A / 2) (LC A n b as (aln A + c) lb) = LSm A φ n b as (aln A + c) lb
  | 0, b, as, c, lb, hb, has, hI => by
    have hb11 : b = 11 := by omega
    subst hb11
    obtain ⟨r1, r2⟩ := rg_ok hA hR hI
    have hrw : rw_ A 11 = aN A / 2 := (oc_half hA).1
    show dsm φ (aN A / 2) (fun i => if aln A + c < 16 ∧ i = 16 * as + (aln A + c) then 1 else 0) = φ as (aln A + c)
    generalize aln A + c = rg at r1 r2
    unfold dsm
    rw [smr_1 (k := as) (aN A / 2 + 1) (by omega) (fun i hi hne => ?_)]
    · rw [smr_1 (k := rg - 1) 15 (by omega) (fun i hi hne => ?_)]
      · rw [show rg - 1 + 1 = rg by omega]
        dsimp only
        rw [if_pos ⟨r2, rfl⟩]
        show 1 * φ as rg = φ as rg
        rw [Int.one_mul]
      · dsimp only
        rw [if_neg (fun q => by omega)]
        exact Int.zero_mul _
    · apply smr_0
      intro r hr
      dsimp only
      rw [if_neg (fun q => by omega)]
      exact Int.zero_mul _
  | n + 1, b, as, c, lb, hb, has, hI => by
    rw [LC_s, LSm_s]
    have hh : pb A b = true → ah A b ≤ 1 := fun q => ah_1 hA q
    by_cases hp : pb A b = true
    · have e : rw_ A (b + 1) = rw_ A b + 1 := by rw [rw_s, if_pos hp]
      have := hh hp
      rw [if_pos hp, if_pos hp, dsm_add]
      have i1 := dsm_LC hA hR φ n (b + 1) (as + ah A b) (c + cl1 A b lb) (L1 A b lb) (by omega) (by omega) (IV_1 hA hp hI)
      have i2 := dsm_LC hA hR φ n (b + 1) (as + 1 - ah A b) (c + cl2 A b lb) (L2 A b lb) (by omega) (by omega) (IV_2 hA hp hI)
      rw [← Nat.add_assoc] at i1 i2
      rw [← i1, ← i2]
    · have e : rw_ A (b + 1) = rw_ A b := by rw [rw_s, if_neg hp]; rfl
      rw [if_neg hp, if_neg hp]
      exact dsm_LC hA hR φ n (b + 1) as c lb (by omega) (by omega) (IV_no hp hI)
