theorem gLr {σ ρ : Type} {f : σ → Option (σ ⊕ ρ)} {n : Nat} {x : σ} {r : ρ} (h : f x = some (.inr r)) : gL f (n + 1) x = some r := by unfold gL; rw [h]
theorem gLl {σ ρ : Type} {f : σ → Option (σ ⊕ ρ)} {n : Nat} {x y : σ} (h : f x = some (.inl y)) : gL f (n + 1) x = gL f n y := by
  show gL f (n + 1) x = _
  unfold gL
  rw [h]
  cases n <;> rfl
def knd (m : Nat) : Nat := if m < 11 then 1 else if m < 132 then 2 else 3
theorem e_kindOf (m : Nat) (s : kM) : f_M_kindOf m s = some ((knd m : Nat) : Int) := by
  unfold f_M_kindOf knd
  by_cases h1 : m < 11
  · rw [if_neg (by omega), if_pos h1]
    rfl
  · rw [if_pos (by omega), if_neg h1]
    by_cases h2 : m < 132
    · rw [if_neg (by omega), if_pos h2]
      rfl
    · rw [if_pos (by omega), if_neg h2]
      rfl
theorem e_bO0 {x k : Nat} (hx : x < 2000) (s : kM) : f_M_bridgeOf_30 k x k s = some ((x % 11 : Nat) : Int) := by
  unfold f_M_bridgeOf_30
  refine gLr (n := 4095) ?_
  show f_M_bridgeOf_30b k x k s = _
  unfold f_M_bridgeOf_30b
  rw [if_pos (Int.le_refl _), show (11 : Int) = ((11 : Nat) : Int) from rfl, krem_n (by omega) (by decide) (by decide)]
theorem e_bOs {x k l n : Nat} (hx : x < 2000) (hkl : k < l) (hl : l < 10) (s : kM) : gL (fun (x : Int × Int) => f_M_bridgeOf_30b k x.1 x.2 s) (n + 1) ((x : Int), (l : Int)) = gL (fun (x : Int × Int) => f_M_bridgeOf_30b k x.1 x.2 s) n (((x / 11 : Nat) : Int), ((l - 1 : Nat) : Int)) := by
  refine gLl ?_
  show f_M_bridgeOf_30b k x l s = _
  unfold f_M_bridgeOf_30b
  have hw : wI ((l : Int) + (-1)) = ((l - 1 : Nat) : Int) := by rw [wI_id (by omega) (by omega)]; omega
  rw [if_neg (by omega), show (11 : Int) = ((11 : Nat) : Int) from rfl, kdiv_n (by omega) (by decide) (by decide), hw]
theorem e_bOe {x k n : Nat} (hx : x < 2000) (s : kM) : gL (fun (x : Int × Int) => f_M_bridgeOf_30b k x.1 x.2 s) (n + 1) ((x : Int), (k : Int)) = some ((x % 11 : Nat) : Int) := by
  refine gLr ?_
  show f_M_bridgeOf_30b k x k s = _
  unfold f_M_bridgeOf_30b
  rw [if_pos (Int.le_refl _), show (11 : Int) = ((11 : Nat) : Int) from rfl, krem_n (by omega) (by decide) (by decide)]
theorem e_bO1 {x k : Nat} (hx : x < 2000) (hk : k < 5) (s : kM) : f_M_bridgeOf_30 k x ((k + 1 : Nat) : Int) s = some ((x / 11 % 11 : Nat) : Int) := by
  unfold f_M_bridgeOf_30
  refine (e_bOs (n := 4095) hx (by omega) (by omega) s).trans ?_
  exact e_bOe (n := 4094) (by omega) s
theorem e_bO2 {x k : Nat} (hx : x < 2000) (hk : k < 5) (s : kM) : f_M_bridgeOf_30 k x ((k + 2 : Nat) : Int) s = some ((x / 11 / 11 % 11 : Nat) : Int) := by
  unfold f_M_bridgeOf_30
  refine (e_bOs (n := 4095) hx (by omega) (by omega) s).trans ?_
  refine (e_bOs (n := 4094) (show x / 11 < 2000 by omega) (by omega) (by omega) s).trans ?_
  exact e_bOe (n := 4093) (by omega) s
/-- the bridges of a move -/
def mv1 (m : Nat) : Nat := if m < 11 then m else if m < 132 then (m - 11) / 11 else (m - 132) / 121
def mv2 (m : Nat) : Nat := if m < 132 then (m - 11) % 11 else (m - 132) / 11 % 11
def mv3 (m : Nat) : Nat := (m - 132) % 11
theorem e_bridgeOf {m : Nat} (hm : m < 1463) (s : kM) : f_M_bridgeOf m 0 s = some ((mv1 m : Nat) : Int) ∧ f_M_bridgeOf m 1 s = some (if m < 11 then -1 else ((mv2 m : Nat) : Int)) ∧ f_M_bridgeOf m 2 s = some (if m < 132 then -1 else ((mv3 m : Nat) : Int)) := by
  unfold f_M_bridgeOf
  rw [e_kindOf, Option.bind_some, Option.bind_some, Option.bind_some]
  unfold knd mv1 mv2 mv3
  by_cases h1 : m < 11
  · simp only [if_pos h1, if_pos (show m < 132 by omega)]
    refine ⟨?_, ?_, ?_⟩
    · rw [if_pos (by decide), if_pos (by decide)]
      unfold f_M_bridgeOf_25
      have := e_bO0 (x := m) (k := 0) (by omega) s
      rw [show m % 11 = m by omega] at this
      exact this
    · rw [if_neg (by decide)]
    · rw [if_neg (by decide)]
  · simp only [if_neg h1]
    by_cases h2 : m < 132
    · simp only [if_pos h2]
      have hw : wI ((m : Int) - 11) = ((m - 11 : Nat) : Int) := by rw [wI_id (by omega) (by omega)]; omega
      have w1 : wI (((2 : Nat) : Int) - 1) = ((0 + 1 : Nat) : Int) := by decide
      refine ⟨?_, ?_, ?_⟩
      · rw [if_pos (by decide), if_neg (by decide), if_pos (by decide), hw]
        unfold f_M_bridgeOf_25
        have := e_bO1 (x := m - 11) (k := 0) (by omega) (by omega) s
        rw [show (m - 11) / 11 % 11 = (m - 11) / 11 by omega] at this
        rw [w1]
        exact this
      · rw [if_pos (by decide), if_neg (by decide), if_pos (by decide), hw]
        unfold f_M_bridgeOf_25
        rw [w1]
        exact e_bO0 (x := m - 11) (k := 1) (by omega) s
      · rw [if_neg (by decide)]
    · simp only [if_neg h2]
      have hw0 : wI ((m : Int) - 11) = ((m - 11 : Nat) : Int) := by rw [wI_id (by omega) (by omega)]; omega
      have hw : wI (((m - 11 : Nat) : Int) - 121) = ((m - 132 : Nat) : Int) := by rw [wI_id (by omega) (by omega)]; omega
      have w1 : wI (((3 : Nat) : Int) - 1) = ((0 + 2 : Nat) : Int) := by decide
      refine ⟨?_, ?_, ?_⟩
      · rw [if_pos (by decide), if_neg (by decide), if_neg (by decide), hw0, hw]
        clear hw0 hw
        unfold f_M_bridgeOf_25
        have := e_bO2 (x := m - 132) (k := 0) (by omega) (by omega) s
        rw [show (m - 132) / 11 / 11 % 11 = (m - 132) / 121 by omega] at this
        rw [w1]
        exact this
      · rw [if_pos (by decide), if_neg (by decide), if_neg (by decide), hw0, hw]
        clear hw0 hw
        unfold f_M_bridgeOf_25
        rw [w1]
        exact e_bO1 (x := m - 132) (k := 1) (by omega) (by omega) s
      · rw [if_pos (by decide), if_neg (by decide), if_neg (by decide), hw0, hw]
        clear hw0 hw
        unfold f_M_bridgeOf_25
        rw [w1]
        exact e_bO0 (x := m - 132) (k := 2) (by omega) s
theorem bre_pb {A : zA} (hA : okA A) {x : Nat} (hx : x < 2 * aN A) : pb A (bre A x) = true := pb_iff.mpr ⟨plc A x, plc_lt hA.1 hx, rfl⟩
theorem e_M_noB {A : zA} (hA : okA A) {t : kM} (hM : MT A t) {a : Nat} (ha : ¬ pb A a = true) : f_M_isBridge a t = some 0 := by
  rw [e_M_isBridge hA hM, Int.toNat_natCast, if_neg (fun q => ha q.2.2)]
/-- whether a move can be: its slide fills the pieces -/
theorem wp_canMove {A : zA} (hA : okA A) {s t : kM} (hM : MT A t) (hF : fLd A s t) {m : Nat} (hm : m < 1463) : wp (f_M_canMove m t) (fun r => (∀ z, z ≠ 116 → r.2 z = t z) ∧ r.1 = (if PK A (2 * aN A) m = true then 1 else 0) ∧ (PK A (2 * aN A) m = true → 132 ≤ m → ∀ i, i < 3 → r.2 116 i = ((sit A (SK A (2 * aN A) m) i / 2 : Nat) : Int))) := by
  obtain ⟨b1, b2, b3⟩ := e_bridgeOf hm t
  unfold f_M_canMove
  rw [b1, Option.bind_some, b2, Option.bind_some, b3, Option.bind_some, e_kindOf, Option.bind_some]
  by_cases h1 : m < 11
  · have ek : knd m = 1 := by unfold knd; rw [if_pos h1]
    have e1 : mv1 m = m := by unfold mv1; rw [if_pos h1]
    have hp := PK_off hA h1
    rw [ek, if_pos (by decide), e1, e_M_isOff hA hM, Option.bind_some, Int.toNat_natCast]
    by_cases hc : PK A (2 * aN A) m = true
    · rw [if_pos ⟨⟨by omega, by omega⟩, hp.mp hc⟩, if_pos hc, show gB 1 = some () from rfl, Option.bind_some, wp_some]
      exact ⟨fun _ _ => rfl, rfl, fun _ q => by omega⟩
    · rw [if_neg (fun q => hc (hp.mpr q.2)), if_neg hc, show gB 0 = some () from rfl, Option.bind_some, wp_some]
      exact ⟨fun _ _ => rfl, rfl, fun q => absurd q hc⟩
  · by_cases h2 : m < 132
    · have ek : knd m = 2 := by unfold knd; rw [if_neg h1, if_pos h2]
      have e1 : mv1 m = (m - 11) / 11 := by unfold mv1; rw [if_neg h1, if_pos h2]
      have e2 : mv2 m = (m - 11) % 11 := by unfold mv2; rw [if_pos h2]
      obtain ⟨a, ha⟩ : ∃ a, a = (m - 11) / 11 := ⟨_, rfl⟩
      obtain ⟨b, hb⟩ : ∃ b, b = (m - 11) % 11 := ⟨_, rfl⟩
      rw [ek, if_neg (by decide), if_pos (by decide), if_neg h1, e1, e2, ← ha, ← hb]
      by_cases hr : a < b
      · have hmA : mA a b = m := by
          unfold mA mi ma
          rw [if_neg (by omega), if_pos hr]
          omega
        have hp := PK_ap hA (show a < 11 by omega) (show b < 11 by omega) (show a ≠ b by omega)
        rw [hmA] at hp
        rw [if_neg (by omega)]
        by_cases hpb : pb A a = true ∧ pb A b = true
        · have hap := e_M_isApart hA hM hF hpb.1 hpb.2 (show a < 11 by omega) (show b < 11 by omega)
          by_cases hc : PK A (2 * aN A) m = true
          · rw [if_pos ⟨by omega, hp.mp hc⟩] at hap
            rw [hap, Option.bind_some, if_neg (by decide), if_pos hc, wp_some]
            exact ⟨fun _ _ => rfl, rfl, fun _ q => by omega⟩
          · rw [if_neg (fun q => hc (hp.mpr q.2))] at hap
            rw [hap, Option.bind_some, if_pos rfl, if_neg hc, wp_some]
            exact ⟨fun _ _ => rfl, rfl, fun q => absurd q hc⟩
        · have hc : ¬ PK A (2 * aN A) m = true := fun q => by
            obtain ⟨x, k1, k2⟩ := List.any_eq_true.mp (hp.mp q)
            have hx : x < 2 * aN A := FL_mem _ k1
            unfold apc at k2
            rw [Bool.and_eq_true, decide_eq_true_eq] at k2
            have q1 := bre_pb hA hx
            have q2 := bre_pb hA (xo_lt hx)
            rcases k2.2 with k | k
            · rw [k.1] at q1
              rw [k.2] at q2
              exact hpb ⟨q1, q2⟩
            · rw [k.1] at q1
              rw [k.2] at q2
              exact hpb ⟨q2, q1⟩
          have hz : f_M_isApart a b t = some 0 := by
            unfold f_M_isApart
            by_cases ca : pb A a = true
            · rw [e_M_isB hA hM ca (by omega), Option.bind_some, if_neg (show ¬ (1 : Int) = 0 by decide), e_M_noB hA hM (fun q => hpb ⟨ca, q⟩), Option.bind_some, if_pos rfl]
            · rw [e_M_noB hA hM ca, Option.bind_some, if_pos rfl]
          rw [hz, Option.bind_some, if_pos rfl, if_neg hc, wp_some]
          exact ⟨fun _ _ => rfl, rfl, fun q => absurd q hc⟩
      · have hc : ¬ PK A (2 * aN A) m = true := fun q => by
          rcases (PK_iff _).mp q with q | ⟨x, k1, k2⟩
          · unfold OF at q
            rw [decide_eq_false h1, Bool.false_and] at q
            cases q
          · have hx : x < 2 * aN A := FL_mem _ k1
            have y1 := bre_lt hA.1 hx
            have y2 := bre_lt hA.1 (xo_lt hx)
            rcases k2 with ⟨k3, k2⟩ | ⟨-, k2⟩
            · have hd := (of_decide_eq_true k3).2.1
              unfold aM mA mi ma at k2
              split at k2 <;> split at k2 <;> omega
            · have := mS_r (bre A x) (bre A (sgm A x)) (bre A (sgm A (sgm A x)))
              unfold sM at k2
              omega
        rw [if_pos (by omega), if_neg hc, wp_some]
        exact ⟨fun _ _ => rfl, rfl, fun q => absurd q hc⟩
    · have ek : knd m = 3 := by unfold knd; rw [if_neg h1, if_neg h2]
      have e1 : mv1 m = (m - 132) / 121 := by unfold mv1; rw [if_neg h1, if_neg h2]
      have e2 : mv2 m = (m - 132) / 11 % 11 := by unfold mv2; rw [if_neg h2]
      have e3 : mv3 m = (m - 132) % 11 := rfl
      obtain ⟨a, ha⟩ : ∃ a, a = (m - 132) / 121 := ⟨_, rfl⟩
      obtain ⟨b, hb⟩ : ∃ b, b = (m - 132) / 11 % 11 := ⟨_, rfl⟩
      obtain ⟨c, hc'⟩ : ∃ c, c = (m - 132) % 11 := ⟨_, rfl⟩
      rw [ek, if_neg (by decide), if_neg (by decide), if_neg h1, if_neg h2, e1, e2, e3, ← ha, ← hb, ← hc']
      by_cases hr : a < b ∧ b < c
      · have hmS : mS a b c = m := by
          unfold mS mi ma
          rw [if_neg (show ¬ c < b by omega), if_neg (show ¬ b < a by omega), if_pos (show b < c by omega), if_pos (show a < c by omega)]
          omega
        have hp := PK_sl hA (show a < 11 by omega) (show b < 11 by omega) (show c < 11 by omega) (show a ≠ b by omega) (show b ≠ c by omega) (show a ≠ c by omega)
        rw [hmS] at hp
        rw [if_neg (by omega), if_neg (by omega)]
        by_cases hpb : pb A a = true ∧ pb A b = true ∧ pb A c = true
        · obtain ⟨⟨r, u⟩, f1, u1, u2⟩ := wp_M_isSlide hA hM hF hpb.1 hpb.2.1 hpb.2.2 (by omega) (by omega) (by omega)
          dsimp only at u1 u2
          rw [f1, Option.bind_some]
          dsimp only
          rcases u2 with ⟨r0, hno⟩ | ⟨r1, hyes, x, ⟨x1, x2, x3⟩, x4⟩
          · have hc : ¬ PK A (2 * aN A) m = true := fun q => hno ⟨by omega, by omega, by omega, hp.mp q⟩
            rw [r0, if_pos rfl, if_neg hc, wp_some]
            exact ⟨u1, rfl, fun q => absurd q hc⟩
          · have hc : PK A (2 * aN A) m = true := hp.mpr hyes.2.2.2
            rw [r1, if_neg (by decide), if_pos hc, wp_some]
            refine ⟨u1, rfl, fun _ q => ?_⟩
            obtain ⟨⟨k1, k2, k3⟩, k4⟩ := SK_min hA q _ (Nat.le_refl _) hc
            have hx : x < 2 * aN A := FL_mem _ x1
            have hk : SK A (2 * aN A) m < 2 * aN A := FL_mem _ k1
            have s1 := slc_sM hA hx (show a < 11 by omega) (show b < 11 by omega) (show c < 11 by omega) (show a ≠ b by omega) (show b ≠ c by omega) (show a ≠ c by omega)
            have s2 := slc_sM hA hk (show a < 11 by omega) (show b < 11 by omega) (show c < 11 by omega) (show a ≠ b by omega) (show b ≠ c by omega) (show a ≠ c by omega)
            rw [hmS] at s1 s2
            have g1 := k4 x x1 (s1.mp x2).1 (s1.mp x2).2
            have g2 := x3 _ k1 (s2.mpr ⟨k2, k3⟩)
            have : x = SK A (2 * aN A) m := by omega
            subst this
            exact x4
        · have hc : ¬ PK A (2 * aN A) m = true := fun q => by
            obtain ⟨x, k1, k2⟩ := List.any_eq_true.mp (hp.mp q)
            have hx : x < 2 * aN A := FL_mem _ k1
            obtain ⟨k3, k4⟩ := slc_iff.mp k2
            obtain ⟨-, d1, d2, d3, -⟩ := of_decide_eq_true k3
            have q1 := bre_pb hA hx
            have q2 := bre_pb hA (sgm_lt hA hx)
            have q3 := bre_pb hA (sgm_lt hA (sgm_lt hA hx))
            generalize bre A x = u at q1 d1 d3 k4
            generalize bre A (sgm A x) = zv at q2 d1 d2 k4
            generalize bre A (sgm A (sgm A x)) = w at q3 d2 d3 k4
            have : (a = u ∨ a = zv ∨ a = w) ∧ (b = u ∨ b = zv ∨ b = w) ∧ (c = u ∨ c = zv ∨ c = w) := by omega
            apply hpb
            refine ⟨?_, ?_, ?_⟩
            · rcases this.1 with h | h | h <;> rw [h] <;> assumption
            · rcases this.2.1 with h | h | h <;> rw [h] <;> assumption
            · rcases this.2.2 with h | h | h <;> rw [h] <;> assumption
          have hz : f_M_isSlide a b c t = some (0, t) := by
            unfold f_M_isSlide
            by_cases ca : pb A a = true
            · rw [e_M_isB hA hM ca (by omega), Option.bind_some, if_neg (show ¬ (1 : Int) = 0 by decide)]
              by_cases cb : pb A b = true
              · rw [e_M_isB hA hM cb (by omega), Option.bind_some, if_neg (show ¬ (1 : Int) = 0 by decide), e_M_noB hA hM (fun q => hpb ⟨ca, cb, q⟩), Option.bind_some, if_pos rfl]
              · rw [e_M_noB hA hM cb, Option.bind_some, if_pos rfl]
            · rw [e_M_noB hA hM ca, Option.bind_some, if_pos rfl]
          rw [hz, Option.bind_some, if_pos rfl, if_neg hc, wp_some]
          exact ⟨fun _ _ => rfl, rfl, fun q => absurd q hc⟩
      · have hc : ¬ PK A (2 * aN A) m = true := fun q => by
          rcases (PK_iff _).mp q with q | ⟨x, k1, k2⟩
          · unfold OF at q
            rw [decide_eq_false h1, Bool.false_and] at q
            cases q
          · have hx : x < 2 * aN A := FL_mem _ k1
            have y1 := bre_lt hA.1 hx
            have y2 := bre_lt hA.1 (xo_lt hx)
            have y3 := bre_lt hA.1 (sgm_lt hA hx)
            have y4 := bre_lt hA.1 (sgm_lt hA (sgm_lt hA hx))
            rcases k2 with ⟨-, k2⟩ | ⟨k3, k2⟩
            · have := mA_r y1 y2
              unfold aM at k2
              omega
            · obtain ⟨-, d1, d2, d3, -⟩ := of_decide_eq_true k3
              obtain ⟨p, q, r, o1, o2, f1, f2, f3, o3⟩ := srt3 d1 d2 d3
              unfold sM mS at k2
              rw [f2, f3, f1] at k2
              clear f1 f2 f3
              apply hr
              omega
        by_cases hab : a < b
        · rw [if_neg (by omega), if_pos (by omega), if_neg hc, wp_some]
          exact ⟨fun _ _ => rfl, rfl, fun q => absurd q hc⟩
        · rw [if_pos (by omega), if_neg hc, wp_some]
          exact ⟨fun _ _ => rfl, rfl, fun q => absurd q hc⟩
