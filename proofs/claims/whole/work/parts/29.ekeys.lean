/-! keys -/
def mi (a b : Nat) : Nat := if b < a then b else a
def ma (a b : Nat) : Nat := if a < b then b else a
def mA (a b : Nat) : Nat := 11 + 11 * mi a b + ma a b
def mS (a b c : Nat) : Nat := 132 + 121 * mi a (mi b c) + 11 * (a + b + c - mi a (mi b c) - ma a (ma b c)) + ma a (ma b c)
def koff (b : Nat) : Int := kor (kor (kor 4096 (kshl (b : Int) 8)) 240) 15
def kap (x y : Nat) : Int := kor (kor (kor 8192 (kshl (x : Int) 8)) (kshl (y : Int) 4)) 15
def ksl (x y z : Nat) : Int := kor (kor (kor 12288 (kshl (x : Int) 8)) (kshl (y : Int) 4)) (z : Int)
theorem koff_all : ∀ b : Fin 11, koff b.val = ((ky b.val : Nat) : Int) := by decide +kernel
theorem kap_all : ∀ a b : Fin 11, kap a.val b.val = ((ky (11 + 11 * a.val + b.val) : Nat) : Int) := by decide +kernel
theorem ksl_all : ∀ a b c : Fin 11, ksl a.val b.val c.val = ((ky (132 + 121 * a.val + 11 * b.val + c.val) : Nat) : Int) := by decide +kernel
theorem e_offKey {b : Nat} (h : b < 11) (s : kM) : f_Land_offKey b s = some ((ky b : Nat) : Int) := by
  rw [← koff_all ⟨b, h⟩]
  rfl
theorem e_min (a b : Nat) (s : kM) : f_Math_min a b s = some ((mi a b : Nat) : Int) := by
  unfold f_Math_min mi
  by_cases h : b < a
  · rw [if_pos (by omega), if_pos h]
  · rw [if_neg (by omega), if_neg h]
theorem e_max (a b : Nat) (s : kM) : f_Math_max a b s = some ((ma a b : Nat) : Int) := by
  unfold f_Math_max ma
  by_cases h : a < b
  · rw [if_pos (by omega), if_pos h]
  · rw [if_neg (by omega), if_neg h]
theorem mi_lt {a b n : Nat} (ha : a < n) (hb : b < n) : mi a b < n ∧ ma a b < n := by
  unfold mi ma
  constructor <;> split <;> assumption
theorem mA_lt {a b : Nat} (ha : a < 11) (hb : b < 11) : mA a b < 1463 := by
  have := mi_lt ha hb
  unfold mA
  omega
theorem mid_lt {a b c : Nat} (ha : a < 11) (hb : b < 11) (hc : c < 11) : a + b + c - mi a (mi b c) - ma a (ma b c) < 11 ∧ mi a (mi b c) + ma a (ma b c) ≤ a + b + c := by
  unfold mi ma
  constructor <;> (repeat' split) <;> omega
theorem mS_lt {a b c : Nat} (ha : a < 11) (hb : b < 11) (hc : c < 11) : mS a b c < 1463 := by
  have h1 := mi_lt hb hc
  have h2 := mi_lt ha h1.1
  have h3 := mi_lt ha h1.2
  have h4 := mid_lt ha hb hc
  unfold mS
  omega
theorem e_apartKey {a b : Nat} (ha : a < 11) (hb : b < 11) (s : kM) : f_Land_apartKey a b s = some ((ky (mA a b) : Nat) : Int) := by
  have h := mi_lt ha hb
  unfold f_Land_apartKey mA
  rw [e_min, Option.bind_some, e_max, Option.bind_some, ← kap_all ⟨mi a b, h.1⟩ ⟨ma a b, h.2⟩]
  rfl
theorem wI_add2 {a b : Nat} (h : a + b < 2147483648) : wI ((a : Int) + (b : Int)) = ((a + b : Nat) : Int) := by
  rw [wI_id (by omega) (by omega)]
  omega
theorem wI_sub2 {a b : Nat} (h : b ≤ a) (h2 : a < 2147483648) : wI ((a : Int) - (b : Int)) = ((a - b : Nat) : Int) := by
  rw [wI_id (by omega) (by omega)]
  omega
theorem e_slideKey {a b c : Nat} (ha : a < 11) (hb : b < 11) (hc : c < 11) (s : kM) : f_Land_slideKey a b c s = some ((ky (mS a b c) : Nat) : Int) := by
  have h1 := mi_lt hb hc
  have h2 := mi_lt ha h1.1
  have h3 := mi_lt ha h1.2
  have h4 := mid_lt ha hb hc
  have b1 : a + b < 2147483648 := by omega
  have b2 : a + b + c < 2147483648 := by omega
  have b3 : mi a (mi b c) ≤ a + b + c := by omega
  have b4 : ma a (ma b c) ≤ a + b + c - mi a (mi b c) := by omega
  have b5 : a + b + c - mi a (mi b c) < 2147483648 := by omega
  unfold f_Land_slideKey mS
  rw [e_min, Option.bind_some, e_min, Option.bind_some, e_max, Option.bind_some, e_max, Option.bind_some, wI_add2 b1, wI_add2 b2, wI_sub2 b3 b2, wI_sub2 b4 b5, ← ksl_all ⟨mi a (mi b c), h2.1⟩ ⟨a + b + c - mi a (mi b c) - ma a (ma b c), h4.1⟩ ⟨ma a (ma b c), h3.2⟩]
  rfl
/-! what the class asks of ends -/
def hgt (A : zA) (j : Nat) : Nat := ap A j % 2 + ap A (nx (aF A) (aN A) j) % 2
theorem hgt_le (A : zA) (j : Nat) : hgt A j ≤ 2 := by unfold hgt; omega
section ENDS
variable {A : zA} {s : kM} {b : Nat}
theorem e_bridgeAtEnd (hA : okA A) (hK : KT b A s) {e : Nat} (he : e < 2 * aN A) : f_Land_bridgeAtEnd b e s = some ((bre A e : Nat) : Int) := by
  have hn := okB_n hA.1
  have h14 : ∀ p, p < aN A → f_Land_bridgeAtEnd_14 b (p : Int) s = some ((ap A p / 2 : Nat) : Int) := by
    intro p hp
    have hpq := hA.1.2.2.2.1 p hp
    have e1 : s (b + 1) p = ((ap A p : Nat) : Int) := hK.1.2.2.2.1 p hp
    have e2 : kshr ((ap A p : Nat) : Int) 1 = ((ap A p / 2 : Nat) : Int) := kshr_n (k := 1) (by omega) (by omega)
    unfold f_Land_bridgeAtEnd_14
    rw [gI_n (show p < 22 by omega), Option.bind_some, e1, e2]
  have e1 : kand (e : Int) 1 = ((e % 2 : Nat) : Int) := kand1_n (by omega)
  have e2 : kshr (e : Int) 1 = ((e / 2 : Nat) : Int) := kshr_n (k := 1) (by omega) (by omega)
  unfold f_Land_bridgeAtEnd bre plc
  rw [e1, e2]
  by_cases h : e % 2 = 0
  · rw [if_pos (by omega), if_pos h]
    exact h14 _ (by omega)
  · have e3 : s (b + 3) (e / 2) = ((nx (aF A) (aN A) (e / 2) : Nat) : Int) := hK.2.2.2.1 _ (by omega)
    rw [if_neg (by omega), if_neg h, gI_n (show e / 2 < 22 by omega), Option.bind_some, e3]
    exact h14 _ (nx_lt hA.1 (by omega))
theorem e_timesOver (hA : okA A) (hK : KT b A s) {e : Nat} (he : e < 2 * aN A) : f_Land_timesOver b e s = some ((hgt A (e / 2) : Nat) : Int) := by
  have hn := okB_n hA.1
  have hl := nx_lt hA.1 (show e / 2 < aN A by omega)
  have e2 : kshr (e : Int) 1 = ((e / 2 : Nat) : Int) := kshr_n (k := 1) (by omega) (by omega)
  have e3 : s (b + 3) (e / 2) = ((nx (aF A) (aN A) (e / 2) : Nat) : Int) := hK.2.2.2.1 _ (by omega)
  have hp : ∀ p, p < aN A → kand (s (b + 1) p) 1 = ((ap A p % 2 : Nat) : Int) := fun p hp => by
    have hpq := hA.1.2.2.2.1 p hp
    rw [hK.1.2.2.2.1 p hp]
    exact kand1_n (by omega)
  unfold f_Land_timesOver hgt
  rw [e2, gI_n (show e / 2 < 22 by omega), Option.bind_some, Option.bind_some, e3, gI_n (show nx (aF A) (aN A) (e / 2) < 22 by omega), Option.bind_some, hp _ (by omega), hp _ hl, wI_id (by omega) (by omega)]
  rw [Int.natCast_add]
theorem e_stepFrom (hA : okA A) (hT : TN A 11 (s (b + 3))) {e : Nat} (he : e < 2 * aN A) : f_Land_stepFrom b e s = some ((sgm A e : Nat) : Int) := by
  have hn := okB_n hA.1
  have hx := xo_lt he
  have ex : kxor (e : Int) 1 = ((xo e : Nat) : Int) := by
    rw [show (1 : Int) = ((1 : Nat) : Int) from rfl, kxor_n (by omega) (by decide), xo_xor (by omega)]
  unfold f_Land_stepFrom
  rw [ex, gI_n (show xo e < 44 by omega), Option.bind_some, hT _ hx (bre_lt hA.1 hx)]
  rfl
theorem e_roundFrom (hA : okA A) (hT : TN A 11 (s (b + 3))) {e : Nat} (he : e < 2 * aN A) : f_Land_roundFrom b e s = some ((orb A e : Nat) : Int) := by
  have hn := okB_n hA.1
  obtain ⟨h1, h2, h3, h4, h5⟩ := orb_all hA he
  have hag := orb_again hA he
  have hp44 : 2 ^ (2 * aN A) ≤ 2 ^ 44 := Nat.pow_le_pow_right (by decide) (by omega)
  unfold f_Land_roundFrom f_Land_roundFrom_6
  apply wp_eq
  refine wp_for 44 (fun i x => i ≤ sz A e ∧ x.1 = ((pz A e i : Nat) : Int) ∧ x.2.1 = ((sit A e i : Nat) : Int) ∧ x.2.2 = (i : Int)) 0 _ (by omega) (by omega) (by exact ⟨by omega, rfl, rfl, rfl⟩) ?_ ?_
  · rintro i ⟨y1, y2, y3⟩ _ hi ⟨hle, rfl, rfl, rfl⟩
    have hsl := sit_lt hA he i
    have hx := xo_lt hsl
    have hpl := pz_lt hA he i
    have ex : kxor ((sit A e i : Nat) : Int) 1 = ((xo (sit A e i) : Nat) : Int) := by
      rw [show (1 : Int) = ((1 : Nat) : Int) from rfl, kxor_n (by omega) (by decide), xo_xor (by omega)]
    have hpw : 2 ^ sit A e i < 2 ^ 44 := Nat.pow_lt_pow_right (by decide) (by omega)
    dsimp only
    unfold f_Land_roundFrom_6b
    rw [if_neg (show ¬ (44 : Int) ≤ (i : Int) by omega), klbit (by omega) (by omega)]
    by_cases hin : i = sz A e
    · subst hin
      rw [if_pos hag, if_neg (by decide), wp_some, gE_r, h4]
    · rw [if_neg (h3 i (by omega)), if_pos rfl, ex, gI_n (show xo (sit A e i) < 44 by omega), Option.bind_some, hT _ hx (bre_lt hA.1 hx), klone (by omega), klor_n (by omega) (by omega), wp_some, gE_l]
      dsimp only
      rw [wI_s (by omega)]
      exact ⟨by omega, rfl, rfl, rfl⟩
  · rintro ⟨y1, y2, y3⟩ ⟨hle, rfl, rfl, rfl⟩
    dsimp only
    unfold f_Land_roundFrom_6b
    rw [if_pos (show (44 : Int) ≤ ((44 : Nat) : Int) by decide), wp_some, gE_r, h4, show sz A e = 44 by omega]
end ENDS
/-! which MOVES there are, as the class lists them -/
def ofA (A : zA) (b : Nat) : Bool := decide (nx (aF A) (aN A) (oA A b) = uA A b ∨ nx (aF A) (aN A) (uA A b) = oA A b)
def OF (A : zA) (b : Nat) : Nat → Bool := fun m => decide (m < b) && (pb A m && ofA A m)
def cA (A : zA) (e : Nat) : Bool := decide (sz A e = 2 ∧ bre A e ≠ bre A (xo e) ∧ 2 ^ hgt A (e / 2) ||| 2 ^ hgt A (sgm A e / 2) = 5)
def cS (A : zA) (e : Nat) : Bool := decide (sz A e = 3 ∧ bre A e ≠ bre A (sgm A e) ∧ bre A (sgm A e) ≠ bre A (sgm A (sgm A e)) ∧ bre A e ≠ bre A (sgm A (sgm A e)) ∧ 2 ^ hgt A (e / 2) ||| 2 ^ hgt A (sgm A e / 2) ||| 2 ^ hgt A (sgm A (sgm A e) / 2) = 7)
def aM (A : zA) (e : Nat) : Nat := mA (bre A e) (bre A (xo e))
def sM (A : zA) (e : Nat) : Nat := mS (bre A e) (bre A (sgm A e)) (bre A (sgm A (sgm A e)))
def PK (A : zA) : Nat → Nat → Bool
  | 0 => OF A 11
  | e + 1 => if (SS A e).testBit e = true then PK A e else if cA A e = true then ins (PK A e) (aM A e) else if cS A e = true then ins (PK A e) (sM A e) else PK A e
def SK (A : zA) : Nat → Nat → Nat
  | 0 => fun _ => 0
  | e + 1 => fun m => if (SS A e).testBit e = true then SK A e m else if cA A e = true then (if PK A e (aM A e) = true then SK A e m else if m = aM A e then e else SK A e m) else if cS A e = true then (if PK A e (sM A e) = true then SK A e m else if m = sM A e then e else SK A e m) else SK A e m
theorem PK_s (A : zA) (e : Nat) : PK A (e + 1) = if (SS A e).testBit e = true then PK A e else if cA A e = true then ins (PK A e) (aM A e) else if cS A e = true then ins (PK A e) (sM A e) else PK A e := rfl
theorem SK_s (A : zA) (e : Nat) : SK A (e + 1) = fun m => if (SS A e).testBit e = true then SK A e m else if cA A e = true then (if PK A e (aM A e) = true then SK A e m else if m = aM A e then e else SK A e m) else if cS A e = true then (if PK A e (sM A e) = true then SK A e m else if m = sM A e then e else SK A e m) else SK A e m := rfl
theorem cq_ins_le (P : Nat → Bool) (m0 n : Nat) : cq (ins P m0) n ≤ cq P n + 1 := by
  by_cases h : P m0 = true
  · have eI : ins P m0 = P := by
      funext m
      unfold ins
      by_cases hmm : m = m0
      · rw [hmm, h]
        rfl
      · rw [decide_eq_false hmm, Bool.or_false]
    rw [eI]
    omega
  · rw [cq_ins h]
    split <;> omega
theorem OF_cq (A : zA) : ∀ n, cq (OF A 11) n ≤ 11 := by
  intro n
  have key : ∀ n, cq (OF A 11) n ≤ if n < 11 then n else 11 := by
    intro n
    induction n with
    | zero => exact Nat.le_refl 0
    | succ n ih =>
      rw [cq_succ]
      by_cases h : n < 11
      · rw [if_pos h] at ih
        split <;> split <;> omega
      · rw [if_neg h] at ih
        have : ¬ OF A 11 n = true := by
          unfold OF
          rw [decide_eq_false h, Bool.false_and]
          decide
        rw [if_neg this, if_neg (by omega)]
        omega
  have := key n
  split at this <;> omega
theorem oc_orb {A : zA} (hA : okA A) {S e : Nat} (he : e < 2 * aN A) (hc : clo A S) (hb : ¬ S.testBit e = true) : oc (S ||| orb A e) 64 = oc S 64 + sz A e := by
  have hn := okB_n hA.1
  obtain ⟨h1, h2, h3, h4, h5⟩ := orb_all hA he
  have hns := clo_sit hA he hc hb
  have key : ∀ i, i ≤ sz A e → oc (S ||| pz A e i) 64 = oc S 64 + i := by
    intro i
    induction i with
    | zero => intro _; rw [show pz A e 0 = 0 from rfl, Nat.or_zero]; rfl
    | succ i ih =>
      intro hi
      have hsl := sit_lt hA he i
      rw [pz_s, ← Nat.or_assoc, oc_or, ih (by omega), if_pos (by omega)]
      · omega
      · rw [Nat.testBit_or, Bool.eq_false_iff.mpr (hns i), Bool.eq_false_iff.mpr (h3 i (by omega))]
        rfl
  rw [h4]
  exact key _ (Nat.le_refl _)
theorem PK_cap {A : zA} (hA : okA A) : ∀ e, e ≤ 2 * aN A → 2 * cq (PK A e) 1463 ≤ 22 + oc (SS A e) 64
  | 0, _ => by
    have := OF_cq A 1463
    show 2 * cq (OF A 11) 1463 ≤ _
    omega
  | e + 1, h => by
    have ih := PK_cap hA e (by omega)
    have hcl := (SS_ok hA e (by omega)).1
    rw [PK_s, SS_s]
    by_cases hb : (SS A e).testBit e = true
    · rw [if_pos hb, if_pos hb]
      exact ih
    · rw [if_neg hb, if_neg hb, oc_orb hA (by omega) hcl hb]
      by_cases c1 : cA A e = true
      · have hz := (of_decide_eq_true c1).1
        have := cq_ins_le (PK A e) (aM A e) 1463
        rw [if_pos c1]
        omega
      · rw [if_neg c1]
        by_cases c2 : cS A e = true
        · have hz := (of_decide_eq_true c2).1
          have := cq_ins_le (PK A e) (sM A e) 1463
          rw [if_pos c2]
          omega
        · rw [if_neg c2]
          omega
theorem PK_48 {A : zA} (hA : okA A) {e : Nat} (he : e ≤ 2 * aN A) : cq (PK A e) 1463 < 48 := by
  have hn := okB_n hA.1
  have h1 := PK_cap hA e he
  have h2 := (SS_ok hA e he).2
  have h3 := oc_ltp h2 (64 - 2 * aN A)
  rw [show 2 * aN A + (64 - 2 * aN A) = 64 by omega] at h3
  omega
