def tO (oth : Nat → Nat) (x y : Nat) : Nat → Nat := if oth x = y then oth else tieO oth x y
def tK (oth : Nat → Nat) (x y : Nat) (f : Nat → Int) : Nat → Int := if oth x = y then f else kup (kup f (oth x) ((oth y : Nat) : Int)) (oth y) ((oth x : Nat) : Int)
def AR (F : Nat → Prop) (oth : Nat → Nat) (f : Nat → Int) : Prop := ∀ e, F e → f e = ((oth e : Nat) : Int)
theorem J_tie {N : Nat} {F : Nat → Prop} {lb oth : Nat → Nat} (h : Jv N F lb oth) {x y : Nat} (hx : F x) (hy : F y) (hxy : x ≠ y) : Jv N (cutF F x y) (jn lb (x / 2) (y / 2)) (tO oth x y) := by
  unfold tO
  by_cases hc : oth x = y
  · rw [if_pos hc, jn_eq ((J_same h hx hy hxy).mp hc)]
    exact J_close h hx hc
  · rw [if_neg hc]
    exact J_merge h hx hy hxy hc
theorem AR_tie {N : Nat} {F : Nat → Prop} {lb oth : Nat → Nat} (h : Jv N F lb oth) {f : Nat → Int} (hf : AR F oth f) {x y : Nat} (hx : F x) (hy : F y) : AR (cutF F x y) (tO oth x y) (tK oth x y f) := by
  rintro e ⟨he, e1, e2⟩
  unfold tO tK
  by_cases hc : oth x = y
  · rw [if_pos hc, if_pos hc]
    exact hf e he
  · rw [if_neg hc, if_neg hc]
    unfold kup tieO
    by_cases c1 : e = oth y
    · rw [if_pos c1, if_pos c1]
    · rw [if_neg c1, if_neg c1]
      by_cases c2 : e = oth x
      · rw [if_pos c2, if_pos c2]
      · rw [if_neg c2, if_neg c2]
        exact hf e he
theorem e_tie {N : Nat} (hN : N ≤ 22) {F : Nat → Prop} {lb oth : Nat → Nat} (h : Jv N F lb oth) {s : kM} (hf : AR F oth (s 47)) {x y : Nat} (hx : F x) (hy : F y) (hxy : x ≠ y) : f_Bracket_tie x y s = some (((eqn (lb (x / 2)) (lb (y / 2)) : Nat) : Int), gA s 47 (tK oth x y (s 47))) := by
  obtain ⟨⟨a1, a2, a3, a4⟩, a5⟩ := h x hx
  obtain ⟨⟨b1, b2, b3, b4⟩, b5⟩ := h y hy
  have a6 := (h _ a2).1.1
  have b6 := (h _ b2).1.1
  have hs := J_same h hx hy hxy
  unfold f_Bracket_tie tK eqn
  rw [gI_n (show x < 44 by omega), Option.bind_some, gI_n (show y < 44 by omega), Option.bind_some, hf x hx, hf y hy]
  by_cases hc : oth x = y
  · rw [if_pos (by omega), if_pos (hs.mp hc), if_pos hc, gA_id]
    rfl
  · rw [if_neg (by omega), if_neg (fun q => hc (hs.mpr q)), if_neg hc, gI_n (show oth x < 44 by omega), Option.bind_some, gLet_eq, gI_n (show oth y < 44 by omega), Option.bind_some, gLet_eq]
    show some ((0 : Int), gU (gA s 47 (kup (s 47) (oth x) ((oth y : Nat) : Int))) 47 (oth y) ((oth x : Nat) : Int)) = _
    rw [gUA]
    rfl
theorem e_untie {N : Nat} (hN : N ≤ 22) {F : Nat → Prop} {lb oth : Nat → Nat} (h : Jv N F lb oth) {f : Nat → Int} (hf : AR F oth f) {s : kM} {x y : Nat} (hx : F x) (hy : F y) (hxy : x ≠ y) (hs : s 47 = tK oth x y f) : f_Bracket_untie x y s = some (gA s 47 f) := by
  obtain ⟨⟨a1, a2, a3, a4⟩, a5⟩ := h x hx
  obtain ⟨⟨b1, b2, b3, b4⟩, b5⟩ := h y hy
  have a6 := (h _ a2).1.1
  have b6 := (h _ b2).1.1
  have ex : s 47 x = ((oth x : Nat) : Int) ∧ s 47 y = ((oth y : Nat) : Int) := by
    rw [hs]
    unfold tK
    by_cases hc : oth x = y
    · rw [if_pos hc]
      exact ⟨hf x hx, hf y hy⟩
    · have n1 : x ≠ oth y := fun q => hc (by rw [q, b3])
      rw [if_neg hc]
      unfold kup
      rw [if_neg n1, if_neg (Ne.symm a4), if_neg (Ne.symm b4), if_neg (fun q => hc q.symm)]
      exact ⟨hf x hx, hf y hy⟩
  unfold f_Bracket_untie
  rw [gI_n (show x < 44 by omega), Option.bind_some, gI_n (show y < 44 by omega), Option.bind_some, ex.1, gI_n (show oth x < 44 by omega), Option.bind_some, gLet_eq, ex.2, gI_n (show oth y < 44 by omega), Option.bind_some, gLet_eq]
  show some (gU (gA s 47 (kup (s 47) (oth x) (x : Int))) 47 (oth y) (y : Int)) = _
  rw [gUA, hs]
  congr 2
  funext e
  unfold tK kup
  by_cases hc : oth x = y
  · have hc2 : oth y = x := by rw [← hc, a3]
    rw [if_pos hc, hc, hc2]
    by_cases c1 : e = x
    · rw [if_pos c1, c1, hf x hx, hc]
    · rw [if_neg c1]
      by_cases c2 : e = y
      · rw [if_pos c2, c2, hf y hy, hc2]
      · rw [if_neg c2]
  · rw [if_neg hc]
    by_cases c1 : e = oth y
    · rw [if_pos c1, c1, hf _ b2, b3]
    · rw [if_neg c1]
      by_cases c2 : e = oth x
      · rw [if_pos c2, c2, hf _ a2, a3]
      · rw [if_neg c2, if_neg c1, if_neg c2]
/-- how many choices lead to a row and column -/
def LC (A : zA) : Nat → Nat → Nat → Nat → (Nat → Nat) → Nat → Nat
  | 0, _, as, rg, _ => fun i => if rg < 16 ∧ i = 16 * as + rg then 1 else 0
  | n + 1, b, as, rg, lb => if pb A b = true then (fun i => LC A n (b + 1) (as + ah A b) (rg + cl1 A b lb) (L1 A b lb) i + LC A n (b + 1) (as + 1 - ah A b) (rg + cl2 A b lb) (L2 A b lb) i) else LC A n (b + 1) as rg lb
theorem LC_s (A : zA) (n b as rg : Nat) (lb : Nat → Nat) : LC A (n + 1) b as rg lb = if pb A b = true then (fun i => LC A n (b + 1) (as + ah A b) (rg + cl1 A b lb) (L1 A b lb) i + LC A n (b + 1) (as + 1 - ah A b) (rg + cl2 A b lb) (L2 A b lb) i) else LC A n (b + 1) as rg lb := rfl
theorem LC_le (A : zA) : ∀ n b as rg lb i, LC A n b as rg lb i ≤ 2 ^ n
  | 0, b, as, rg, lb, i => by
    show (if rg < 16 ∧ i = 16 * as + rg then 1 else 0) ≤ 1
    split <;> omega
  | n + 1, b, as, rg, lb, i => by
    rw [LC_s, Nat.pow_succ]
    have h2 : 0 < 2 ^ n := Nat.two_pow_pos n
    split
    · have := LC_le A n (b + 1) (as + ah A b) (rg + cl1 A b lb) (L1 A b lb) i
      have := LC_le A n (b + 1) (as + 1 - ah A b) (rg + cl2 A b lb) (L2 A b lb) i
      show LC A n (b + 1) (as + ah A b) (rg + cl1 A b lb) (L1 A b lb) i + LC A n (b + 1) (as + 1 - ah A b) (rg + cl2 A b lb) (L2 A b lb) i ≤ 2 ^ n * 2
      omega
    · have := LC_le A n (b + 1) as rg lb i
      omega
theorem eqn_le (a b : Nat) : eqn a b ≤ 1 := by unfold eqn; split <;> omega
theorem fre_no {A : zA} (hA : okA A) {b : Nat} (hb : ¬ pb A b = true) (x : Nat) : fre A (b + 1) x ↔ fre A b x := by
  unfold fre
  constructor
  · rintro ⟨h1, h2⟩
    exact ⟨h1, by omega⟩
  · rintro ⟨h1, h2⟩
    refine ⟨h1, ?_⟩
    by_cases he : bre A x = b
    · exact absurd (by rw [← he]; exact bre_pb hA h1) hb
    · omega
theorem fre_4 {A : zA} (hA : okA A) {b : Nat} (hb : pb A b = true) (x : Nat) : fre A (b + 1) x ↔ (fre A b x ∧ x ≠ aOC A b ∧ x ≠ aOG A b ∧ x ≠ aUC A b ∧ x ≠ aUG A b) := by
  obtain ⟨d, ⟨f1, f2, f3, f4⟩, h⟩ := ends_d hA hb
  constructor
  · rintro ⟨h1, h2⟩
    have no : ∀ y, bre A y = b → x ≠ y := fun y hy q => by rw [q, hy] at h2; omega
    have e : ∀ y, fre A b y → (∀ z, z = aOC A b ∨ z = aOG A b ∨ z = aUC A b ∨ z = aUG A b → bre A z = b) → True := fun _ _ _ => trivial
    have bo : ∀ k, k < 2 → bre A (en A (oA A b) k) = b ∧ bre A (en A (uA A b) k) = b := fun k hk => by
      obtain ⟨-, g2, -, g4⟩ := oA_lt hA hb
      obtain ⟨-, -, x3, x4⟩ := tn_o hA hb
      unfold bre
      rw [(plc_en hA.1 g2 hk).1, (plc_en hA.1 g4 hk).1, x3, x4]
      omega
    exact ⟨⟨h1, by omega⟩, no _ (bo 1 (by omega)).1, no _ (bo 0 (by omega)).1, no _ (bo 1 (by omega)).2, no _ (bo 0 (by omega)).2⟩
  · rintro ⟨h1, n1, n2, n3, n4⟩
    exact h x h1 n1 n2 n3 n4
theorem wp_cut {A : zA} (hA : okA A) : ∀ (n b m as rg : Nat) (lb oth : Nat → Nat) (s : kM), b + n = 11 → n < m → KT 4 A s → as ≤ b → rg ≤ 2 + 2 * b → Jv (aN A) (fre A b) lb oth → AR (fre A b) oth (s 47) → (∀ i, i < 192 → 0 ≤ s 46 i ∧ s 46 i + ((2 ^ n : Nat) : Int) ≤ 5000) → wp (fr_Bracket_cut 4 m 0 (b : Int) (as : Int) (rg : Int) s) (fun t => (∀ z, z ≠ 46 → t z = s z) ∧ ∀ i, t 46 i = s 46 i + ((LC A n b as rg lb i : Nat) : Int))
  | 0, b, m, as, rg, lb, oth, s, hb, hm, hK, has, hrg, hJ, hAR, h46 => by
    obtain ⟨m', rfl⟩ : ∃ m', m = m' + 1 := ⟨m - 1, by omega⟩
    show wp (f_Bracket_cut 4 (fr_Bracket_cut 4 m') (b : Int) (as : Int) (rg : Int) s) _
    unfold f_Bracket_cut
    rw [if_neg (by omega)]
    by_cases h16 : 16 ≤ rg
    · rw [if_pos (by omega), wp_some]
      refine ⟨fun _ _ => rfl, fun i => ?_⟩
      show s 46 i = s 46 i + ((if rg < 16 ∧ i = 16 * as + rg then 1 else 0 : Nat) : Int)
      rw [if_neg (fun q => by omega)]
      omega
    · have ew : wI ((as : Int) * 16) = ((16 * as : Nat) : Int) := by rw [wI_id (by omega) (by omega)]; omega
      have h5 := h46 (16 * as + rg) (by omega)
      have ew2 : wI (s 46 (16 * as + rg) + 1) = s 46 (16 * as + rg) + 1 := wI_id (by omega) (by omega)
      rw [if_neg (by omega), ew, wI_add2 (by clear ew ew2; omega), gI_n (show 16 * as + rg < 192 by clear ew ew2; omega), Option.bind_some, Option.bind_some, ew2, gLet_eq, wp_some]
      clear ew ew2
      refine ⟨fun z hz => gU_n _ _ _ hz, fun i => ?_⟩
      show _ = s 46 i + ((if rg < 16 ∧ i = 16 * as + rg then 1 else 0 : Nat) : Int)
      by_cases hi : i = 16 * as + rg
      · rw [hi, gUs, if_pos ⟨by omega, rfl⟩]
        rfl
      · rw [gUo _ _ _ hi, if_neg (fun q => hi q.2)]
        omega
  | n + 1, b, m, as, rg, lb, oth, s, hb, hm, hK, has, hrg, hJ, hAR, h46 => by
    obtain ⟨m', rfl⟩ : ∃ m', m = m' + 1 := ⟨m - 1, by omega⟩
    have ih := wp_cut hA n (b + 1) m'
    have hn := okB_n hA.1
    have hp2 : 2 ^ (n + 1) = 2 ^ n * 2 := Nat.pow_succ 2 n
    have hp0 : 0 < 2 ^ n := Nat.two_pow_pos n
    show wp (f_Bracket_cut 4 (fr_Bracket_cut 4 m') (b : Int) (as : Int) (rg : Int) s) _
    unfold f_Bracket_cut
    rw [if_pos (by omega), wI_s (by omega)]
    by_cases hp : pb A b = true
    · have eh : f_Town_has 4 (b : Int) s = some 1 := by rw [e_has hA hK, Int.toNat_natCast, if_pos ⟨by omega, by omega, hp⟩]
      obtain ⟨h1, h2, h3, h4⟩ := oA_lt hA hp
      have hh := ah_1 hA hp
      obtain ⟨⟨d1, d2, d3, d4, d5, d6⟩, ⟨f1, f2, f3, f4⟩, -⟩ := ends_d hA hp
      obtain ⟨q1, q2, q3, q4⟩ := end_2 A b
      have hpv1 := pv_lt hA.1 h2
      have hpv2 := pv_lt hA.1 h4
      have e2 : s (4 + 2) b = ((ah A b : Nat) : Int) := hK.1.2.2.2.2 b (pb_iff.mp hp)
      have e3 : s (4 + 4) (oA A b) = ((pv (aF A) (aN A) (oA A b) : Nat) : Int) := hK.2.2.2.2 _ h2
      have e4 : s (4 + 4) (uA A b) = ((pv (aF A) (aN A) (uA A b) : Nat) : Int) := hK.2.2.2.2 _ h4
      have l2 := f2.1
      have l4 := f4.1
      have k1 : kshr ((aOG A b : Nat) : Int) 1 = ((aOG A b / 2 : Nat) : Int) := kshr_n (k := 1) (by omega) (by omega)
      have k2 : kshr ((aUG A b : Nat) : Int) 1 = ((aUG A b / 2 : Nat) : Int) := kshr_n (k := 1) (by omega) (by omega)
      rw [q2] at k1
      rw [q4] at k2
      have io : gI 22 ((oA A b : Nat) : Int) = some (oA A b) := gI_n (by omega)
      have iu : gI 22 ((uA A b : Nat) : Int) = some (uA A b) := gI_n (by omega)
      have ib : gI 11 (b : Int) = some b := gI_n (by omega)
      have hb11 : b < 11 := by omega
      have w1 : wI (2 * ((oA A b : Nat) : Int)) = ((aOG A b : Nat) : Int) := (en_w hA.1 h2).1
      have w2 : wI (wI (2 * ((pv (aF A) (aN A) (oA A b) : Nat) : Int)) + 1) = ((aOC A b : Nat) : Int) := (en_w hA.1 h2).2
      have w3 : wI (2 * ((uA A b : Nat) : Int)) = ((aUG A b : Nat) : Int) := (en_w hA.1 h4).1
      have w4 : wI (wI (2 * ((pv (aF A) (aN A) (uA A b) : Nat) : Int)) + 1) = ((aUC A b : Nat) : Int) := (en_w hA.1 h4).2
      rw [eh, Option.bind_some, if_neg (by decide), ib, Option.bind_some, e_overAt hK hb11, Option.bind_some, e_underAt hK hb11, Option.bind_some, h1, h3, w1, w3, k1, k2, io, Option.bind_some, iu, Option.bind_some, e3, e4, w2, w4, e2]
      clear w1 w2 w3 w4 k1 k2
      -- the first way
      have T1 := e_tie hn.2 hJ hAR (x := aOC A b) (y := aUG A b) f1 f4 d3
      have J1 := J_tie hJ f1 f4 d3
      have R1 := AR_tie hJ hAR f1 f4
      have f3' : cutF (fre A b) (aOC A b) (aUG A b) (aUC A b) := ⟨f3, Ne.symm d2, d6⟩
      have f2' : cutF (fre A b) (aOC A b) (aUG A b) (aOG A b) := ⟨f2, Ne.symm d1, d5⟩
      have T2 := e_tie hn.2 J1 (s := gA s 47 (tK oth (aOC A b) (aUG A b) (s 47))) (by rw [gA_s]; exact R1) f3' f2' (Ne.symm d4)
      have J2 := J_tie J1 f3' f2' (Ne.symm d4)
      have R2 := AR_tie J1 R1 f3' f2'
      rw [gA_s, gAA] at T2
      rw [q1, q4] at T1 J1 T2 J2
      rw [q3, q2] at T2 J2
      have J2' : Jv (aN A) (fre A (b + 1)) (L1 A b lb) (tO (tO oth (aOC A b) (aUG A b)) (aUC A b) (aOG A b)) := Jv_iff J2 (fun x => by
        rw [fre_4 hA hp]
        unfold cutF
        constructor
        · rintro ⟨r1, r2, r3, r4, r5⟩
          exact ⟨⟨r1, r2, r5⟩, r4, r3⟩
        · rintro ⟨⟨r1, r2, r5⟩, r4, r3⟩
          exact ⟨r1, r2, r3, r4, r5⟩)
      have fiff : ∀ x, fre A (b + 1) x → cutF (cutF (fre A b) (aOC A b) (aUG A b)) (aUC A b) (aOG A b) x := fun x hx => by
        obtain ⟨r1, r2, r3, r4, r5⟩ := (fre_4 hA hp x).mp hx
        exact ⟨⟨r1, r2, r5⟩, r4, r3⟩
      have el1 := eqn_le (lb (pvA A (oA A b))) (lb (uA A b))
      have el2 := eqn_le (jn lb (pvA A (oA A b)) (uA A b) (pvA A (uA A b))) (jn lb (pvA A (oA A b)) (uA A b) (oA A b))
      have wc : wI (((eqn (lb (pvA A (oA A b))) (lb (uA A b)) : Nat) : Int) + ((eqn (jn lb (pvA A (oA A b)) (uA A b) (pvA A (uA A b))) (jn lb (pvA A (oA A b)) (uA A b) (oA A b)) : Nat) : Int)) = ((cl1 A b lb : Nat) : Int) := by rw [wI_add2 (by omega)]; rfl
      have hc1 : cl1 A b lb ≤ 2 := by unfold cl1; omega
      obtain ⟨G, hG⟩ : ∃ G, G = gA s 47 (tK (tO oth (aOC A b) (aUG A b)) (aUC A b) (aOG A b) (tK oth (aOC A b) (aUG A b) (s 47))) := ⟨_, rfl⟩
      have G1 : ∀ z, z ≠ 47 → G z = s z := fun z hz => by rw [hG, gAn _ _ hz]
      have G2 : G 47 = tK (tO oth (aOC A b) (aUG A b)) (aUC A b) (aOG A b) (tK oth (aOC A b) (aUG A b) (s 47)) := by rw [hG, gA_s]
      have IH1 := ih (as + ah A b) (rg + cl1 A b lb) (L1 A b lb) _ G (by omega) (by omega) (KT_c hK (fun i hi => G1 _ (by omega))) (by omega) (by omega) J2' (by rw [G2]; exact fun x hx => R2 x (fiff x hx)) (fun i hi => by rw [G1 46 (by decide)]; have := h46 i hi; omega)
      obtain ⟨t, g1, t1, t2⟩ := IH1
      rw [T1, Option.bind_some]
      dsimp only
      rw [T2, Option.bind_some]
      dsimp only
      rw [← hG, wI_add2 (show as + ah A b < 2147483648 by omega), wc, wI_add2 (by clear wc; omega), g1, Option.bind_some]
      clear wc
      have U1 := e_untie hn.2 J1 R1 (s := t) f3' f2' (Ne.symm d4) (by rw [t1 47 (by decide), G2])
      have U2 := e_untie hn.2 hJ hAR (s := gA t 47 (tK oth (aOC A b) (aUG A b) (s 47))) f1 f4 d3 (by rw [gA_s])
      rw [gAA] at U2
      rw [U1, Option.bind_some, U2, Option.bind_some]
      obtain ⟨H, hH⟩ : ∃ H, H = gA t 47 (s 47) := ⟨_, rfl⟩
      rw [← hH]
      have H47 : H 47 = s 47 := by rw [hH, gA_s]
      have H1 : ∀ z, z ≠ 46 → H z = s z := fun z hz => by
        by_cases h47 : z = 47
        · rw [h47]; exact H47
        · rw [hH, gAn _ _ h47, t1 z hz, G1 z h47]
      have H46 : ∀ i, H 46 i = s 46 i + ((LC A n (b + 1) (as + ah A b) (rg + cl1 A b lb) (L1 A b lb) i : Nat) : Int) := fun i => by rw [hH, gAn _ _ (by decide), t2 i, G1 46 (by decide)]
      clear hH hG G1 G2 U1 U2 T1 T2 J2 J2' R2 fiff f2' f3' t1 t2 g1
      have hARH : AR (fre A b) oth (H 47) := by rw [H47]; exact hAR
      -- the second way
      have T3 := e_tie hn.2 hJ hARH (x := aOC A b) (y := aUC A b) f1 f3 d2
      have J3 := J_tie hJ f1 f3 d2
      have R3 := AR_tie hJ hARH f1 f3
      have f2' : cutF (fre A b) (aOC A b) (aUC A b) (aOG A b) := ⟨f2, Ne.symm d1, d4⟩
      have f4' : cutF (fre A b) (aOC A b) (aUC A b) (aUG A b) := ⟨f4, Ne.symm d3, Ne.symm d6⟩
      have T4 := e_tie hn.2 J3 (s := gA H 47 (tK oth (aOC A b) (aUC A b) (H 47))) (by rw [gA_s]; exact R3) f2' f4' d5
      have J4 := J_tie J3 f2' f4' d5
      have R4 := AR_tie J3 R3 f2' f4'
      rw [gA_s, gAA] at T4
      rw [q1, q3] at T3 J3 T4 J4
      rw [q2, q4] at T4 J4
      have J4' : Jv (aN A) (fre A (b + 1)) (L2 A b lb) (tO (tO oth (aOC A b) (aUC A b)) (aOG A b) (aUG A b)) := Jv_iff J4 (fun x => by
        rw [fre_4 hA hp]
        unfold cutF
        constructor
        · rintro ⟨r1, r2, r3, r4, r5⟩
          exact ⟨⟨r1, r2, r4⟩, r3, r5⟩
        · rintro ⟨⟨r1, r2, r4⟩, r3, r5⟩
          exact ⟨r1, r2, r3, r4, r5⟩)
      have fiff : ∀ x, fre A (b + 1) x → cutF (cutF (fre A b) (aOC A b) (aUC A b)) (aOG A b) (aUG A b) x := fun x hx => by
        obtain ⟨r1, r2, r3, r4, r5⟩ := (fre_4 hA hp x).mp hx
        exact ⟨⟨r1, r2, r4⟩, r3, r5⟩
      have el3 := eqn_le (lb (pvA A (oA A b))) (lb (pvA A (uA A b)))
      have el4 := eqn_le (jn lb (pvA A (oA A b)) (pvA A (uA A b)) (oA A b)) (jn lb (pvA A (oA A b)) (pvA A (uA A b)) (uA A b))
      have wc : wI (((eqn (lb (pvA A (oA A b))) (lb (pvA A (uA A b))) : Nat) : Int) + ((eqn (jn lb (pvA A (oA A b)) (pvA A (uA A b)) (oA A b)) (jn lb (pvA A (oA A b)) (pvA A (uA A b)) (uA A b)) : Nat) : Int)) = ((cl2 A b lb : Nat) : Int) := by rw [wI_add2 (by omega)]; rfl
      have hc2 : cl2 A b lb ≤ 2 := by unfold cl2; omega
      obtain ⟨G, hG⟩ : ∃ G, G = gA H 47 (tK (tO oth (aOC A b) (aUC A b)) (aOG A b) (aUG A b) (tK oth (aOC A b) (aUC A b) (H 47))) := ⟨_, rfl⟩
      have G1 : ∀ z, z ≠ 47 → G z = H z := fun z hz => by rw [hG, gAn _ _ hz]
      have G2 : G 47 = tK (tO oth (aOC A b) (aUC A b)) (aOG A b) (aUG A b) (tK oth (aOC A b) (aUC A b) (H 47)) := by rw [hG, gA_s]
      have IH2 := ih (as + 1 - ah A b) (rg + cl2 A b lb) (L2 A b lb) _ G (by omega) (by omega) (KT_c hK (fun i hi => by rw [G1 _ (by omega), H1 _ (by omega)])) (by omega) (by omega) J4' (by rw [G2]; exact fun x hx => R4 x (fiff x hx)) (fun i hi => by
        have := h46 i hi
        have := LC_le A n (b + 1) (as + ah A b) (rg + cl1 A b lb) (L1 A b lb) i
        rw [G1 46 (by decide), H46 i]
        omega)
      obtain ⟨t, g1, t1, t2⟩ := IH2
      have hha : H (4 + 2) b = ((ah A b : Nat) : Int) := by rw [H1 _ (by decide)]; exact e2
      rw [T3, Option.bind_some]
      dsimp only
      rw [T4, Option.bind_some]
      dsimp only
      rw [← hG, wI_s (show as < 2147483647 by omega), wI_sub2 (show ah A b ≤ as + 1 by omega) (by omega), wc, wI_add2 (by clear wc; omega), g1, Option.bind_some]
      clear wc
      have U1 := e_untie hn.2 J3 R3 (s := t) f2' f4' d5 (by rw [t1 47 (by decide), G2])
      have U2 := e_untie hn.2 hJ hARH (s := gA t 47 (tK oth (aOC A b) (aUC A b) (H 47))) f1 f3 d2 (by rw [gA_s])
      rw [gAA] at U2
      rw [U1, Option.bind_some, U2, Option.bind_some, wp_some]
      refine ⟨fun z hz => ?_, fun i => ?_⟩
      · by_cases h47 : z = 47
        · rw [h47, gA_s, H47]
        · rw [gAn _ _ h47, t1 z hz, G1 z h47, H1 z hz]
      · rw [gAn _ _ (by decide), t2 i, G1 46 (by decide), H46 i, LC_s, if_pos hp, Int.natCast_add]
        omega
    · have eh : f_Town_has 4 (b : Int) s = some 0 := by rw [e_has hA hK, Int.toNat_natCast, if_neg (fun q => hp q.2.2)]
      obtain ⟨t, g1, t1, t2⟩ := ih as rg lb oth s (by omega) (by omega) hK (by omega) (by omega) (Jv_iff hJ (fre_no hA hp)) (fun x hx => hAR x ((fre_no hA hp x).mp hx)) (fun i hi => by have := h46 i hi; omega)
      rw [eh, Option.bind_some, if_pos rfl, g1, Option.bind_some, wp_some, LC_s, if_neg hp]
      exact ⟨t1, t2⟩
