/-- a piece of land is a SLIDE of three bridges -/
def slc (A : zA) (a b c x : Nat) : Bool := cS A x && ((2 ^ a ||| 2 ^ b ||| 2 ^ c).testBit (bre A x) && ((2 ^ a ||| 2 ^ b ||| 2 ^ c).testBit (bre A (sgm A x)) && (2 ^ a ||| 2 ^ b ||| 2 ^ c).testBit (bre A (sgm A (sgm A x)))))
theorem slc_iff {A : zA} {a b c x : Nat} : slc A a b c x = true ↔ cS A x = true ∧ ((bre A x = a ∨ bre A x = b ∨ bre A x = c) ∧ (bre A (sgm A x) = a ∨ bre A (sgm A x) = b ∨ bre A (sgm A x) = c) ∧ (bre A (sgm A (sgm A x)) = a ∨ bre A (sgm A (sgm A x)) = b ∨ bre A (sgm A (sgm A x)) = c)) := by
  unfold slc
  rw [Bool.and_eq_true, Bool.and_eq_true, Bool.and_eq_true, bit3, bit3, bit3]
theorem slc_sM {A : zA} (hA : okA A) {a b c x : Nat} (hx : x < 2 * aN A) (ha : a < 11) (hb : b < 11) (hc : c < 11) (h1 : a ≠ b) (h2 : b ≠ c) (h3 : a ≠ c) : slc A a b c x = true ↔ cS A x = true ∧ sM A x = mS a b c := by
  rw [slc_iff]
  constructor
  · rintro ⟨q1, q2⟩
    obtain ⟨-, d1, d2, d3, -⟩ := of_decide_eq_true q1
    exact ⟨q1, (mS_eq ha hb hc (bre_lt hA.1 hx) (bre_lt hA.1 (sgm_lt hA hx)) (bre_lt hA.1 (sgm_lt hA (sgm_lt hA hx))) h1 h2 h3 d1 d2 d3).mpr q2⟩
  · rintro ⟨q1, q2⟩
    obtain ⟨-, d1, d2, d3, -⟩ := of_decide_eq_true q1
    exact ⟨q1, (mS_eq ha hb hc (bre_lt hA.1 hx) (bre_lt hA.1 (sgm_lt hA hx)) (bre_lt hA.1 (sgm_lt hA (sgm_lt hA hx))) h1 h2 h3 d1 d2 d3).mp q2⟩
theorem PK_sl {A : zA} (hA : okA A) {a b c : Nat} (ha : a < 11) (hb : b < 11) (hc : c < 11) (h1 : a ≠ b) (h2 : b ≠ c) (h3 : a ≠ c) : PK A (2 * aN A) (mS a b c) = true ↔ (FL A (2 * aN A)).any (slc A a b c) = true := by
  have hr := mS_r a b c
  rw [PK_iff, List.any_eq_true]
  constructor
  · rintro (h | ⟨x, k1, k2⟩)
    · exfalso
      unfold OF at h
      rw [decide_eq_false (by omega), Bool.false_and] at h
      cases h
    · have hx : x < 2 * aN A := FL_mem _ k1
      rcases k2 with ⟨k3, k2⟩ | ⟨k3, k2⟩
      · exfalso
        have := mA_r (bre_lt hA.1 hx) (bre_lt hA.1 (xo_lt hx))
        unfold aM at k2
        omega
      · exact ⟨x, k1, (slc_sM hA hx ha hb hc h1 h2 h3).mpr ⟨k3, k2⟩⟩
  · rintro ⟨x, k1, k2⟩
    have hx : x < 2 * aN A := FL_mem _ k1
    exact Or.inr ⟨x, k1, Or.inr ((slc_sM hA hx ha hb hc h1 h2 h3).mp k2)⟩
/-- the class keeps the least end -/
theorem SK_min {A : zA} (hA : okA A) {m : Nat} (hm : 132 ≤ m) : ∀ e, e ≤ 2 * aN A → PK A e m = true → (SK A e m ∈ FL A e ∧ cS A (SK A e m) = true ∧ sM A (SK A e m) = m) ∧ ∀ y, y ∈ FL A e → cS A y = true → sM A y = m → SK A e m ≤ y
  | 0, _, h => by
    exfalso
    have h' : OF A 11 m = true := h
    unfold OF at h'
    rw [decide_eq_false (by omega), Bool.false_and] at h'
    cases h'
  | e + 1, he, h => by
    have ih := SK_min hA hm e (by omega)
    have hel : e < 2 * aN A := by omega
    rw [PK_s] at h
    rw [SK_s, FL_s]
    dsimp only
    by_cases hb : (SS A e).testBit e = true
    · rw [if_pos hb] at h
      rw [if_pos hb, if_pos hb]
      exact ih h
    · rw [if_neg hb] at h
      rw [if_neg hb, if_neg hb]
      -- as it was, and the new one asks for another move
      have keep : PK A e m = true → (SK A e m ∈ FL A e ++ [e] ∧ cS A (SK A e m) = true ∧ sM A (SK A e m) = m) ∧ ∀ y, y ∈ FL A e ++ [e] → cS A y = true → sM A y = m → SK A e m ≤ y := by
        intro hp
        obtain ⟨⟨q1, q2, q3⟩, q4⟩ := ih hp
        refine ⟨⟨List.mem_append.mpr (Or.inl q1), q2, q3⟩, fun y hy hc hs => ?_⟩
        rcases List.mem_append.mp hy with hy | hy
        · exact q4 y hy hc hs
        · rw [List.mem_singleton] at hy
          have := FL_mem _ q1
          omega
      by_cases c1 : cA A e = true
      · have haM : aM A e ≠ m := by
          have := mA_r (bre_lt hA.1 hel) (bre_lt hA.1 (xo_lt hel))
          unfold aM
          omega
        rw [if_pos c1] at h
        rw [if_pos c1]
        have hp : PK A e m = true := by
          unfold ins at h
          rw [Bool.or_eq_true, decide_eq_true_eq] at h
          rcases h with h | h
          · exact h
          · exact absurd h.symm haM
        have e1 : (if PK A e (aM A e) = true then SK A e m else if m = aM A e then e else SK A e m) = SK A e m := by
          split
          · rfl
          · rw [if_neg (fun q => haM q.symm)]
        rw [e1]
        exact keep hp
      · rw [if_neg c1] at h
        rw [if_neg c1]
        by_cases c2 : cS A e = true
        · rw [if_pos c2] at h
          rw [if_pos c2]
          by_cases hp : PK A e m = true
          · have e1 : (if PK A e (sM A e) = true then SK A e m else if m = sM A e then e else SK A e m) = SK A e m := by
              split
              · rfl
              · rename_i hq
                rw [if_neg (fun q => hq (by rw [← q]; exact hp))]
            rw [e1]
            exact keep hp
          · have hms : m = sM A e := by
              unfold ins at h
              rw [Bool.or_eq_true, decide_eq_true_eq] at h
              rcases h with h | h
              · exact absurd h hp
              · exact h
            rw [if_neg (by rw [← hms]; exact hp), if_pos hms]
            refine ⟨⟨List.mem_append.mpr (Or.inr (List.mem_singleton.mpr rfl)), c2, hms.symm⟩, fun y hy hc hs => ?_⟩
            rcases List.mem_append.mp hy with hy | hy
            · exact absurd (PK_iff e |>.mpr (Or.inr ⟨y, hy, Or.inr ⟨hc, hs⟩⟩)) hp
            · rw [List.mem_singleton] at hy
              omega
        · rw [if_neg c2] at h
          rw [if_neg c2]
          exact keep h
theorem FL_srt {A : zA} : ∀ e i j, (hj : j < (FL A e).length) → (hij : i < j) → (FL A e)[i]'(Nat.lt_trans hij hj) < (FL A e)[j]
  | 0, i, j, hj, _ => absurd hj (Nat.not_lt_zero j)
  | e + 1, i, j, hj, hij => by
    have ih := FL_srt (A := A) e
    by_cases hb : (SS A e).testBit e = true
    · have eF : FL A (e + 1) = FL A e := by rw [FL_s, if_pos hb]
      simp only [eF] at hj ⊢
      exact ih i j hj hij
    · have eF : FL A (e + 1) = FL A e ++ [e] := by rw [FL_s, if_neg hb]
      simp only [eF] at hj ⊢
      rw [List.length_append, List.length_singleton] at hj
      rw [List.getElem_append_left (show i < (FL A e).length by omega)]
      by_cases hjl : j < (FL A e).length
      · rw [List.getElem_append_left hjl]
        exact ih i j hjl hij
      · have : j = (FL A e).length := by omega
        subst this
        rw [List.getElem_append_right (Nat.le_refl _)]
        simp
        exact FL_mem _ (List.getElem_mem _)
theorem kxor_b {a b : Nat} (ha : a < 2 ^ 11) (hb : b < 2 ^ 11) : kxor (a : Int) (b : Int) = ((a ^^^ b : Nat) : Int) ∧ a ^^^ b < 2 ^ 11 := ⟨kxor_n (by omega) (by omega), Nat.xor_lt_two_pow ha hb⟩
/-- one round of three -/
theorem wp_sl1 {A : zA} (hA : okA A) {t : kM} (hM : MT A t) (hT : TN A 11 (t 100)) {X e mt hh i : Nat} {g : Bool} (hX : X < 2 ^ 11) (he : e < 2 * aN A) (hmt : mt < 2 ^ 11) (hhh : hh < 2 ^ 11) (hi : i < 3) : wp (f_M_isSlideLand_13b X e mt hh (if g = true then 1 else 0) i t) (gE (fun y => y.1 = ((sgm A e : Nat) : Int) ∧ y.2.1 = ((mt ||| (X ^^^ (2 ^ bre A e ||| 2 ^ bre A (xo e))) : Nat) : Int) ∧ y.2.2.1 = ((hh ||| 2 ^ hgt A (e / 2) : Nat) : Int) ∧ y.2.2.2.1 = (if (g && decide (bre A e ≠ bre A (xo e) ∧ (2 ^ bre A e ||| 2 ^ bre A (xo e)) &&& X = 2 ^ bre A e ||| 2 ^ bre A (xo e) ∧ mt &&& (X ^^^ (2 ^ bre A e ||| 2 ^ bre A (xo e))) = 0)) = true then 1 else 0) ∧ y.2.2.2.2.1 = ((i + 1 : Nat) : Int) ∧ y.2.2.2.2.2 = gU t 116 i ((e / 2 : Nat) : Int)) (fun _ => False)) := by
  have hn := okB_n hA.1
  have hj : e / 2 < aN A := by omega
  have hl := nx_lt hA.1 hj
  have hxo := xo_lt he
  have b1 := bre_lt hA.1 he
  have b2 := bre_lt hA.1 hxo
  have p1 : 2 ^ bre A e < 2 ^ 11 := Nat.pow_lt_pow_right (by decide) b1
  have p2 : 2 ^ bre A (xo e) < 2 ^ 11 := Nat.pow_lt_pow_right (by decide) b2
  have p3 := Nat.or_lt_two_pow p1 p2
  have p4 := kxor_b hX p3
  have ph := hgt_le A (e / 2)
  have p5 : 2 ^ hgt A (e / 2) < 2 ^ 11 := Nat.pow_lt_pow_right (by decide) (by omega)
  have d1 : kdiv (e : Int) 2 = ((e / 2 : Nat) : Int) := kdiv_n (b := 2) (by omega) (by decide) (by decide)
  have ex : kxor (e : Int) 1 = ((xo e : Nat) : Int) := by
    rw [show (1 : Int) = ((1 : Nat) : Int) from rfl, kxor_n (by omega) (by decide), xo_xor (by omega)]
  have hMG : MT A (gU t 116 i ((e / 2 : Nat) : Int)) := MT_k hM (fun a h1 h2 => gU_n _ _ _ (by omega))
  obtain ⟨G, hG⟩ : ∃ G, G = gU t 116 i ((e / 2 : Nat) : Int) := ⟨_, rfl⟩
  rw [← hG] at hMG
  have etn : G 100 (xo e) = ((sgm A e : Nat) : Int) := by rw [hG, gUn _ _ _ (by decide)]; exact hT _ hxo (bre_lt hA.1 hxo)
  have m1 := (hMG.1.2.2.2.1 _ hj).1
  have m2 := (hMG.1.2.2.2.1 _ hl).1
  -- the two bridges as bits
  have two : kor (kshl 1 ((ap A (e / 2) / 2 : Nat) : Int)) (kshl 1 ((ap A (nx (aF A) (aN A) (e / 2)) / 2 : Nat) : Int)) = ((2 ^ bre A e ||| 2 ^ bre A (xo e) : Nat) : Int) := by
    rcases piece_br (A := A) e with ⟨q1, q2⟩ | ⟨q1, q2⟩
    · rw [← q1, ← q2, kone (by omega), kone (by omega), kor_n (by omega) (by omega)]
    · rw [← q1, ← q2, kone (by omega), kone (by omega), kor_n (by omega) (by omega), Nat.or_comm]
  have eqb : (((ap A (e / 2) / 2 : Nat) : Int) = ((ap A (nx (aF A) (aN A) (e / 2)) / 2 : Nat) : Int)) ↔ bre A e = bre A (xo e) := by
    rcases piece_br (A := A) e with ⟨q1, q2⟩ | ⟨q1, q2⟩ <;> omega
  obtain ⟨T, hTT⟩ : ∃ T, T = 2 ^ bre A e ||| 2 ^ bre A (xo e) := ⟨_, rfl⟩
  rw [← hTT] at two p3 p4 ⊢
  have at68 : ∀ (z : Int) (c : Bool), z = (if c = true then 1 else 0) → wp (f_M_isSlideLand_68 X e mt hh i ((e / 2 : Nat) : Int) (T : Int) z G) (gE (fun y => y.1 = ((sgm A e : Nat) : Int) ∧ y.2.1 = ((mt ||| (X ^^^ T) : Nat) : Int) ∧ y.2.2.1 = ((hh ||| 2 ^ hgt A (e / 2) : Nat) : Int) ∧ y.2.2.2.1 = (if c = true then 1 else 0) ∧ y.2.2.2.2.1 = ((i + 1 : Nat) : Int) ∧ y.2.2.2.2.2 = G) (fun _ : Int × kM => False)) := by
    intro z c hz
    unfold f_M_isSlideLand_68
    rw [e_M_heightOf hA hMG hj, Option.bind_some, ex, gI_n (show xo e < 44 by omega), Option.bind_some, etn, p4.1, kor_n (by omega) (by omega), kone (by omega), kor_n (by omega) (by omega), wI_s (by omega), wp_some, gE_l]
    exact ⟨rfl, rfl, rfl, hz, rfl, rfl⟩
  unfold f_M_isSlideLand_13b f_M_isSlideLand_67
  rw [if_neg (show ¬ (3 : Int) ≤ (i : Int) by omega), gI_n hi, Option.bind_some, d1, gLet_eq, ← hG, gI_n (show e / 2 < 22 by omega), Option.bind_some, e_M_next hA.1 hMG.1 hj, Option.bind_some, gI_n (show nx (aF A) (aN A) (e / 2) < 22 by omega), Option.bind_some, m1, m2, two, Option.bind_some, Option.bind_some, gI_n (show nx (aF A) (aN A) (e / 2) < 22 by omega), Option.bind_some]
  by_cases c0 : g = true
  · subst c0
    rw [if_pos rfl, if_neg (show ¬ (1 : Int) = 0 by decide), m1, m2]
    by_cases c1 : bre A e = bre A (xo e)
    · rw [if_pos (eqb.mpr c1)]
      exact at68 0 _ (by rw [if_neg]; rw [Bool.true_and]; exact fun q => (of_decide_eq_true q).1 c1)
    · rw [if_neg (fun q => c1 (eqb.mp q)), kand_n (by omega) (by omega), p4.1, kand_n (by omega) (by omega)]
      by_cases c2 : T &&& X = T
      · rw [if_pos (by omega)]
        by_cases c3 : mt &&& (X ^^^ T) = 0
        · rw [if_pos (by omega)]
          exact at68 1 _ (by rw [if_pos]; rw [Bool.true_and]; exact decide_eq_true ⟨c1, c2, c3⟩)
        · rw [if_neg (by omega)]
          exact at68 0 _ (by rw [if_neg]; rw [Bool.true_and]; exact fun q => c3 (of_decide_eq_true q).2.2)
      · rw [if_neg (by omega)]
        exact at68 0 _ (by rw [if_neg]; rw [Bool.true_and]; exact fun q => c2 (of_decide_eq_true q).2.1)
  · rw [if_neg c0, if_pos rfl]
    exact at68 0 _ (by rw [if_neg]; rw [Bool.eq_false_iff.mpr c0, Bool.false_and]; decide)
