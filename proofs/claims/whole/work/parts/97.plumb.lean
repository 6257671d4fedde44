/-! PRINTED by wip/whole/gen97.py: the law's cases out of the calls' obligations -/
theorem gP_inv {f : kM → Option Int} {s s1 : kM} {x : Int} (h : gP f s = some (x, s1)) : f s = some x ∧ s1 = s := by
  unfold gP at h
  cases hf : f s with
  | none => rw [hf] at h; cases h
  | some y =>
    rw [hf] at h
    cases h
    exact ⟨rfl, rfl⟩
def kInv (RC : zA → kM → Prop) (RU : Nat → kM → Prop) (h : kH) : Prop := ∃ s, h = hH s ∧ Rel RC RU s ∧ 0 ≤ s 900 1
theorem kcase_KT_feed {sc : List Int} {RC : zA → kM → Prop} {RU : Nat → kM → Prop} (hO : ∀ (a : Int) (_ : kR32 a) (b : Int) (_ : kR32 b) (c : Int) (_ : kR32 c) (d : Int) (_ : kR32 d) (e : Int) (_ : kR32 e), OB RC RU (f_KT_feed a b c d e) (f_M_feed a b c d e)) : kC_0 sc (kInv RC RU) := by
  intro a ha b hb c hc d hd e he
  rintro h ⟨s, rfl, hs, h9⟩
  obtain ⟨zx, zs, zt, e1, e2, hr⟩ := hO a ha b hb c hc d hd e he s hs
  have fK : zs 900 = s 900 := w_KT_feed a b c d e s _ e1 900 (by decide)
  have fM : zt 900 = zs 900 := w_M_feed a b c d e zs _ e2 900 (by decide)
  refine ⟨zx, hH zs, hH zt, (c_KT_feed a b c d e s _ e1).mono (by decide), ⟨_, hH_O (rfl : kotab 85 = some kMo)⟩, (c_M_feed a b c d e zs _ e2).mono (by decide), ⟨zt, rfl, hr, by rw [fM, fK]; exact h9⟩, ?_, ?_⟩
  · show 125 + 2 * (zt 900 0).toNat ≤ 125 + 2 * (s 900 0).toNat + 100
    rw [fM, fK]; omega
  · show (zt 900 1).toNat ≤ (s 900 1).toNat + 2000
    rw [fM, fK]; omega
theorem kcase_KT_end {sc : List Int} {RC : zA → kM → Prop} {RU : Nat → kM → Prop} (hO : ∀ (a : Int) (_ : kR32 a), OB RC RU (f_KT_end a) (f_M_end a)) : kC_1 sc (kInv RC RU) := by
  intro a ha
  rintro h ⟨s, rfl, hs, h9⟩
  obtain ⟨zx, zs, zt, e1, e2, hr⟩ := hO a ha s hs
  have fK : zs 900 = s 900 := w_KT_end a s _ e1 900 (by decide)
  have fM : zt 900 = zs 900 := w_M_end a zs _ e2 900 (by decide)
  refine ⟨zx, hH zs, hH zt, (c_KT_end a s _ e1).mono (by decide), ⟨_, hH_O (rfl : kotab 85 = some kMo)⟩, (c_M_end a zs _ e2).mono (by decide), ⟨zt, rfl, hr, by rw [fM, fK]; exact h9⟩, ?_, ?_⟩
  · show 125 + 2 * (zt 900 0).toNat ≤ 125 + 2 * (s 900 0).toNat + 100
    rw [fM, fK]; omega
  · show (zt 900 1).toNat ≤ (s 900 1).toNat + 2000
    rw [fM, fK]; omega
theorem kcase_KT_town {sc : List Int} {RC : zA → kM → Prop} {RU : Nat → kM → Prop} (hO : OB RC RU f_KT_town f_M_town) : kC_2 sc (kInv RC RU) := by
  rintro h ⟨s, rfl, hs, h9⟩
  obtain ⟨zx, zs, zt, e1, e2, hr⟩ := hO s hs
  have fK : zs 900 = s 900 := w_KT_town s _ e1 900 (by decide)
  have fM : zt 900 = zs 900 := w_M_town zs _ e2 900 (by decide)
  refine ⟨zx, hH zs, hH zt, (c_KT_town s _ e1).mono (by decide), ⟨_, hH_O (rfl : kotab 85 = some kMo)⟩, (c_M_town zs _ e2).mono (by decide), ⟨zt, rfl, hr, by rw [fM, fK]; exact h9⟩, ?_, ?_⟩
  · show 125 + 2 * (zt 900 0).toNat ≤ 125 + 2 * (s 900 0).toNat + 100
    rw [fM, fK]; omega
  · show (zt 900 1).toNat ≤ (s 900 1).toNat + 2000
    rw [fM, fK]; omega
theorem kcase_KT_rule {sc : List Int} {RC : zA → kM → Prop} {RU : Nat → kM → Prop} (hO : OBr RC RU f_KT_rule f_M_rule) : kC_3 sc (kInv RC RU) := by
  rintro h ⟨s, rfl, hs, h9⟩
  obtain ⟨zx, zs, zt, e1, e2, hr, hz1, hz2, hz3⟩ := hO s h9 hs
  have fM : zt 900 = zs 900 := w_M_rule zs _ e2 900 (by decide)
  refine ⟨zx, hH zs, hH zt, (c_KT_rule s _ e1).mono (by decide), ⟨_, hH_O (rfl : kotab 85 = some kMo)⟩, (c_M_rule zs _ e2).mono (by decide), ⟨zt, rfl, hr, by rw [fM]; exact hz3⟩, ?_, ?_⟩
  · show 125 + 2 * (zt 900 0).toNat ≤ 125 + 2 * (s 900 0).toNat + 100
    rw [fM]; omega
  · show (zt 900 1).toNat ≤ (s 900 1).toNat + 2000
    rw [fM]; omega
theorem kcase_KT_force {sc : List Int} {RC : zA → kM → Prop} {RU : Nat → kM → Prop} (hO : ∀ (a : Int) (_ : kR32 a), OB RC RU (f_KT_force a) (f_M_force a)) : kC_4 sc (kInv RC RU) := by
  intro a ha
  rintro h ⟨s, rfl, hs, h9⟩
  obtain ⟨zx, zs, zt, e1, e2, hr⟩ := hO a ha s hs
  have fK : zs 900 = s 900 := w_KT_force a s _ e1 900 (by decide)
  have fM : zt 900 = zs 900 := w_M_force a zs _ e2 900 (by decide)
  refine ⟨zx, hH zs, hH zt, (c_KT_force a s _ e1).mono (by decide), ⟨_, hH_O (rfl : kotab 85 = some kMo)⟩, (c_M_force a zs _ e2).mono (by decide), ⟨zt, rfl, hr, by rw [fM, fK]; exact h9⟩, ?_, ?_⟩
  · show 125 + 2 * (zt 900 0).toNat ≤ 125 + 2 * (s 900 0).toNat + 100
    rw [fM, fK]; omega
  · show (zt 900 1).toNat ≤ (s 900 1).toNat + 2000
    rw [fM, fK]; omega
theorem kcase_KT_place {sc : List Int} {RC : zA → kM → Prop} {RU : Nat → kM → Prop} (hO : ∀ (a : Int) (_ : kR32 a) (b : Int) (_ : kR32 b), OB RC RU (f_KT_place a b) (f_M_place a b)) : kC_5 sc (kInv RC RU) := by
  intro a ha b hb
  rintro h ⟨s, rfl, hs, h9⟩
  obtain ⟨zx, zs, zt, e1, e2, hr⟩ := hO a ha b hb s hs
  have fK : zs 900 = s 900 := w_KT_place a b s _ e1 900 (by decide)
  have fM : zt 900 = zs 900 := w_M_place a b zs _ e2 900 (by decide)
  refine ⟨zx, hH zs, hH zt, (c_KT_place a b s _ e1).mono (by decide), ⟨_, hH_O (rfl : kotab 85 = some kMo)⟩, (c_M_place a b zs _ e2).mono (by decide), ⟨zt, rfl, hr, by rw [fM, fK]; exact h9⟩, ?_, ?_⟩
  · show 125 + 2 * (zt 900 0).toNat ≤ 125 + 2 * (s 900 0).toNat + 100
    rw [fM, fK]; omega
  · show (zt 900 1).toNat ≤ (s 900 1).toNat + 2000
    rw [fM, fK]; omega
theorem kcase_KT_bridge {sc : List Int} {RC : zA → kM → Prop} {RU : Nat → kM → Prop} (hO : ∀ (a : Int) (_ : kR32 a) (b : Int) (_ : kR32 b), OB RC RU (gP (f_KT_bridge a b)) (gP (f_M_bridge a b))) : kC_6 sc (kInv RC RU) := by
  intro a ha b hb
  rintro h ⟨s, rfl, hs, h9⟩
  obtain ⟨zx, zs, zt, e1, e2, hr⟩ := hO a ha b hb s hs
  obtain ⟨e1, rfl⟩ := gP_inv e1
  have fK : zs 900 = zs 900 := rfl
  obtain ⟨e2, rfl⟩ := gP_inv e2
  have fM : zt 900 = zt 900 := rfl
  refine ⟨zx, hH zt, hH zt, (c_KT_bridge a b zt _ e1).mono (by decide), ⟨_, hH_O (rfl : kotab 85 = some kMo)⟩, (c_M_bridge a b zt _ e2).mono (by decide), ⟨zt, rfl, hr, by rw [fM, fK]; exact h9⟩, ?_, ?_⟩
  · show 125 + 2 * (zt 900 0).toNat ≤ 125 + 2 * (zt 900 0).toNat + 100
    rw [fM, fK]; omega
  · show (zt 900 1).toNat ≤ (zt 900 1).toNat + 2000
    rw [fM, fK]; omega
theorem kcase_KT_land {sc : List Int} {RC : zA → kM → Prop} {RU : Nat → kM → Prop} (hO : ∀ (a : Int) (_ : kR32 a), OB RC RU (f_KT_land a) (f_M_land a)) : kC_7 sc (kInv RC RU) := by
  intro a ha
  rintro h ⟨s, rfl, hs, h9⟩
  obtain ⟨zx, zs, zt, e1, e2, hr⟩ := hO a ha s hs
  have fK : zs 900 = s 900 := w_KT_land a s _ e1 900 (by decide)
  have fM : zt 900 = zs 900 := w_M_land a zs _ e2 900 (by decide)
  refine ⟨zx, hH zs, hH zt, (c_KT_land a s _ e1).mono (by decide), ⟨_, hH_O (rfl : kotab 85 = some kMo)⟩, (c_M_land a zs _ e2).mono (by decide), ⟨zt, rfl, hr, by rw [fM, fK]; exact h9⟩, ?_, ?_⟩
  · show 125 + 2 * (zt 900 0).toNat ≤ 125 + 2 * (s 900 0).toNat + 100
    rw [fM, fK]; omega
  · show (zt 900 1).toNat ≤ (s 900 1).toNat + 2000
    rw [fM, fK]; omega
theorem kcase_KT_off {sc : List Int} {RC : zA → kM → Prop} {RU : Nat → kM → Prop} (hO : ∀ (a : Int) (_ : kR32 a), OB RC RU (f_KT_off a) (f_M_off a)) : kC_8 sc (kInv RC RU) := by
  intro a ha
  rintro h ⟨s, rfl, hs, h9⟩
  obtain ⟨zx, zs, zt, e1, e2, hr⟩ := hO a ha s hs
  have fK : zs 900 = s 900 := w_KT_off a s _ e1 900 (by decide)
  have fM : zt 900 = zs 900 := w_M_off a zs _ e2 900 (by decide)
  refine ⟨zx, hH zs, hH zt, (c_KT_off a s _ e1).mono (by decide), ⟨_, hH_O (rfl : kotab 85 = some kMo)⟩, (c_M_off a zs _ e2).mono (by decide), ⟨zt, rfl, hr, by rw [fM, fK]; exact h9⟩, ?_, ?_⟩
  · show 125 + 2 * (zt 900 0).toNat ≤ 125 + 2 * (s 900 0).toNat + 100
    rw [fM, fK]; omega
  · show (zt 900 1).toNat ≤ (s 900 1).toNat + 2000
    rw [fM, fK]; omega
theorem kcase_KT_apart {sc : List Int} {RC : zA → kM → Prop} {RU : Nat → kM → Prop} (hO : ∀ (a : Int) (_ : kR32 a) (b : Int) (_ : kR32 b), OB RC RU (f_KT_apart a b) (f_M_apart a b)) : kC_9 sc (kInv RC RU) := by
  intro a ha b hb
  rintro h ⟨s, rfl, hs, h9⟩
  obtain ⟨zx, zs, zt, e1, e2, hr⟩ := hO a ha b hb s hs
  have fK : zs 900 = s 900 := w_KT_apart a b s _ e1 900 (by decide)
  have fM : zt 900 = zs 900 := w_M_apart a b zs _ e2 900 (by decide)
  refine ⟨zx, hH zs, hH zt, (c_KT_apart a b s _ e1).mono (by decide), ⟨_, hH_O (rfl : kotab 85 = some kMo)⟩, (c_M_apart a b zs _ e2).mono (by decide), ⟨zt, rfl, hr, by rw [fM, fK]; exact h9⟩, ?_, ?_⟩
  · show 125 + 2 * (zt 900 0).toNat ≤ 125 + 2 * (s 900 0).toNat + 100
    rw [fM, fK]; omega
  · show (zt 900 1).toNat ≤ (s 900 1).toNat + 2000
    rw [fM, fK]; omega
theorem kcase_KT_slide {sc : List Int} {RC : zA → kM → Prop} {RU : Nat → kM → Prop} (hO : ∀ (a : Int) (_ : kR32 a) (b : Int) (_ : kR32 b) (c : Int) (_ : kR32 c), OB RC RU (f_KT_slide a b c) (f_M_slide a b c)) : kC_10 sc (kInv RC RU) := by
  intro a ha b hb c hc
  rintro h ⟨s, rfl, hs, h9⟩
  obtain ⟨zx, zs, zt, e1, e2, hr⟩ := hO a ha b hb c hc s hs
  have fK : zs 900 = s 900 := w_KT_slide a b c s _ e1 900 (by decide)
  have fM : zt 900 = zs 900 := w_M_slide a b c zs _ e2 900 (by decide)
  refine ⟨zx, hH zs, hH zt, (c_KT_slide a b c s _ e1).mono (by decide), ⟨_, hH_O (rfl : kotab 85 = some kMo)⟩, (c_M_slide a b c zs _ e2).mono (by decide), ⟨zt, rfl, hr, by rw [fM, fK]; exact h9⟩, ?_, ?_⟩
  · show 125 + 2 * (zt 900 0).toNat ≤ 125 + 2 * (s 900 0).toNat + 100
    rw [fM, fK]; omega
  · show (zt 900 1).toNat ≤ (s 900 1).toNat + 2000
    rw [fM, fK]; omega
theorem kcase_KT_change {sc : List Int} {RC : zA → kM → Prop} {RU : Nat → kM → Prop} (hO : ∀ (a : Int) (_ : kR32 a), OB RC RU (f_KT_change a) (f_M_change a)) : kC_11 sc (kInv RC RU) := by
  intro a ha
  rintro h ⟨s, rfl, hs, h9⟩
  obtain ⟨zx, zs, zt, e1, e2, hr⟩ := hO a ha s hs
  have fK : zs 900 = s 900 := w_KT_change a s _ e1 900 (by decide)
  have fM : zt 900 = zs 900 := w_M_change a zs _ e2 900 (by decide)
  refine ⟨zx, hH zs, hH zt, (c_KT_change a s _ e1).mono (by decide), ⟨_, hH_O (rfl : kotab 85 = some kMo)⟩, (c_M_change a zs _ e2).mono (by decide), ⟨zt, rfl, hr, by rw [fM, fK]; exact h9⟩, ?_, ?_⟩
  · show 125 + 2 * (zt 900 0).toNat ≤ 125 + 2 * (s 900 0).toNat + 100
    rw [fM, fK]; omega
  · show (zt 900 1).toNat ≤ (s 900 1).toNat + 2000
    rw [fM, fK]; omega
theorem kcase_KT_twist {sc : List Int} {RC : zA → kM → Prop} {RU : Nat → kM → Prop} (hO : ∀ (a : Int) (_ : kR32 a) (b : Int) (_ : b = 0 ∨ b = 1) (c : Int) (_ : c = 0 ∨ c = 1), OB RC RU (f_KT_twist a b c) (f_M_twist a b c)) : kC_12 sc (kInv RC RU) := by
  intro a ha b hb c hc
  rintro h ⟨s, rfl, hs, h9⟩
  obtain ⟨zx, zs, zt, e1, e2, hr⟩ := hO a ha b hb c hc s hs
  have fK : zs 900 = s 900 := w_KT_twist a b c s _ e1 900 (by decide)
  have fM : zt 900 = zs 900 := w_M_twist a b c zs _ e2 900 (by decide)
  refine ⟨zx, hH zs, hH zt, (c_KT_twist a b c s _ e1).mono (by decide), ⟨_, hH_O (rfl : kotab 85 = some kMo)⟩, (c_M_twist a b c zs _ e2).mono (by decide), ⟨zt, rfl, hr, by rw [fM, fK]; exact h9⟩, ?_, ?_⟩
  · show 125 + 2 * (zt 900 0).toNat ≤ 125 + 2 * (s 900 0).toNat + 100
    rw [fM, fK]; omega
  · show (zt 900 1).toNat ≤ (s 900 1).toNat + 2000
    rw [fM, fK]; omega
theorem kcase_KT_mirror {sc : List Int} {RC : zA → kM → Prop} {RU : Nat → kM → Prop} (hO : OB RC RU f_KT_mirror f_M_mirror) : kC_13 sc (kInv RC RU) := by
  rintro h ⟨s, rfl, hs, h9⟩
  obtain ⟨zx, zs, zt, e1, e2, hr⟩ := hO s hs
  have fK : zs 900 = s 900 := w_KT_mirror s _ e1 900 (by decide)
  have fM : zt 900 = zs 900 := w_M_mirror zs _ e2 900 (by decide)
  refine ⟨zx, hH zs, hH zt, (c_KT_mirror s _ e1).mono (by decide), ⟨_, hH_O (rfl : kotab 85 = some kMo)⟩, (c_M_mirror zs _ e2).mono (by decide), ⟨zt, rfl, hr, by rw [fM, fK]; exact h9⟩, ?_, ?_⟩
  · show 125 + 2 * (zt 900 0).toNat ≤ 125 + 2 * (s 900 0).toNat + 100
    rw [fM, fK]; omega
  · show (zt 900 1).toNat ≤ (s 900 1).toNat + 2000
    rw [fM, fK]; omega
theorem kcase_KT_backToFront {sc : List Int} {RC : zA → kM → Prop} {RU : Nat → kM → Prop} (hO : ∀ (a : Int) (_ : kR32 a), OB RC RU (f_KT_backToFront a) (f_M_backToFront a)) : kC_14 sc (kInv RC RU) := by
  intro a ha
  rintro h ⟨s, rfl, hs, h9⟩
  obtain ⟨zx, zs, zt, e1, e2, hr⟩ := hO a ha s hs
  have fK : zs 900 = s 900 := w_KT_backToFront a s _ e1 900 (by decide)
  have fM : zt 900 = zs 900 := w_M_backToFront a zs _ e2 900 (by decide)
  refine ⟨zx, hH zs, hH zt, (c_KT_backToFront a s _ e1).mono (by decide), ⟨_, hH_O (rfl : kotab 85 = some kMo)⟩, (c_M_backToFront a zs _ e2).mono (by decide), ⟨zt, rfl, hr, by rw [fM, fK]; exact h9⟩, ?_, ?_⟩
  · show 125 + 2 * (zt 900 0).toNat ≤ 125 + 2 * (s 900 0).toNat + 100
    rw [fM, fK]; omega
  · show (zt 900 1).toNat ≤ (s 900 1).toNat + 2000
    rw [fM, fK]; omega
theorem kcase_KT_can {sc : List Int} {RC : zA → kM → Prop} {RU : Nat → kM → Prop} (hO : ∀ (a : Int) (_ : kR32 a), OB RC RU (f_KT_can a) (f_M_can a)) : kC_15 sc (kInv RC RU) := by
  intro a ha
  rintro h ⟨s, rfl, hs, h9⟩
  obtain ⟨zx, zs, zt, e1, e2, hr⟩ := hO a ha s hs
  have fK : zs 900 = s 900 := w_KT_can a s _ e1 900 (by decide)
  have fM : zt 900 = zs 900 := w_M_can a zs _ e2 900 (by decide)
  refine ⟨zx, hH zs, hH zt, (c_KT_can a s _ e1).mono (by decide), ⟨_, hH_O (rfl : kotab 85 = some kMo)⟩, (c_M_can a zs _ e2).mono (by decide), ⟨zt, rfl, hr, by rw [fM, fK]; exact h9⟩, ?_, ?_⟩
  · show 125 + 2 * (zt 900 0).toNat ≤ 125 + 2 * (s 900 0).toNat + 100
    rw [fM, fK]; omega
  · show (zt 900 1).toNat ≤ (s 900 1).toNat + 2000
    rw [fM, fK]; omega
theorem kcase_KT_writhe {sc : List Int} {RC : zA → kM → Prop} {RU : Nat → kM → Prop} (hO : OB RC RU (gP f_KT_writhe) (gP f_M_writhe)) : kC_16 sc (kInv RC RU) := by
  rintro h ⟨s, rfl, hs, h9⟩
  obtain ⟨zx, zs, zt, e1, e2, hr⟩ := hO s hs
  obtain ⟨e1, rfl⟩ := gP_inv e1
  have fK : zs 900 = zs 900 := rfl
  obtain ⟨e2, rfl⟩ := gP_inv e2
  have fM : zt 900 = zt 900 := rfl
  refine ⟨zx, hH zt, hH zt, (c_KT_writhe zt _ e1).mono (by decide), ⟨_, hH_O (rfl : kotab 85 = some kMo)⟩, (c_M_writhe zt _ e2).mono (by decide), ⟨zt, rfl, hr, by rw [fM, fK]; exact h9⟩, ?_, ?_⟩
  · show 125 + 2 * (zt 900 0).toNat ≤ 125 + 2 * (zt 900 0).toNat + 100
    rw [fM, fK]; omega
  · show (zt 900 1).toNat ≤ (zt 900 1).toNat + 2000
    rw [fM, fK]; omega
theorem kcase_KT_linked {sc : List Int} {RC : zA → kM → Prop} {RU : Nat → kM → Prop} (hO : OB RC RU (gP f_KT_linked) (gP f_M_linked)) : kC_17 sc (kInv RC RU) := by
  rintro h ⟨s, rfl, hs, h9⟩
  obtain ⟨zx, zs, zt, e1, e2, hr⟩ := hO s hs
  obtain ⟨e1, rfl⟩ := gP_inv e1
  have fK : zs 900 = zs 900 := rfl
  obtain ⟨e2, rfl⟩ := gP_inv e2
  have fM : zt 900 = zt 900 := rfl
  refine ⟨zx, hH zt, hH zt, (c_KT_linked zt _ e1).mono (by decide), ⟨_, hH_O (rfl : kotab 85 = some kMo)⟩, (c_M_linked zt _ e2).mono (by decide), ⟨zt, rfl, hr, by rw [fM, fK]; exact h9⟩, ?_, ?_⟩
  · show 125 + 2 * (zt 900 0).toNat ≤ 125 + 2 * (zt 900 0).toNat + 100
    rw [fM, fK]; omega
  · show (zt 900 1).toNat ≤ (zt 900 1).toNat + 2000
    rw [fM, fK]; omega
theorem kcase_KT_colours {sc : List Int} {RC : zA → kM → Prop} {RU : Nat → kM → Prop} (hO : ∀ (a : Int) (_ : kR32 a), OB RC RU (f_KT_colours a) (f_M_colours a)) : kC_18 sc (kInv RC RU) := by
  intro a ha
  rintro h ⟨s, rfl, hs, h9⟩
  obtain ⟨zx, zs, zt, e1, e2, hr⟩ := hO a ha s hs
  have fK : zs 900 = s 900 := w_KT_colours a s _ e1 900 (by decide)
  have fM : zt 900 = zs 900 := w_M_colours a zs _ e2 900 (by decide)
  refine ⟨zx, hH zs, hH zt, (c_KT_colours a s _ e1).mono (by decide), ⟨_, hH_O (rfl : kotab 85 = some kMo)⟩, (c_M_colours a zs _ e2).mono (by decide), ⟨zt, rfl, hr, by rw [fM, fK]; exact h9⟩, ?_, ?_⟩
  · show 125 + 2 * (zt 900 0).toNat ≤ 125 + 2 * (s 900 0).toNat + 100
    rw [fM, fK]; omega
  · show (zt 900 1).toNat ≤ (s 900 1).toNat + 2000
    rw [fM, fK]; omega
theorem kcase_KT_determinant {sc : List Int} {RC : zA → kM → Prop} {RU : Nat → kM → Prop} (hO : OB RC RU f_KT_determinant f_M_determinant) : kC_19 sc (kInv RC RU) := by
  rintro h ⟨s, rfl, hs, h9⟩
  obtain ⟨zx, zs, zt, e1, e2, hr⟩ := hO s hs
  have fK : zs 900 = s 900 := w_KT_determinant s _ e1 900 (by decide)
  have fM : zt 900 = zs 900 := w_M_determinant zs _ e2 900 (by decide)
  refine ⟨zx, hH zs, hH zt, (c_KT_determinant s _ e1).mono (by decide), ⟨_, hH_O (rfl : kotab 85 = some kMo)⟩, (c_M_determinant zs _ e2).mono (by decide), ⟨zt, rfl, hr, by rw [fM, fK]; exact h9⟩, ?_, ?_⟩
  · show 125 + 2 * (zt 900 0).toNat ≤ 125 + 2 * (s 900 0).toNat + 100
    rw [fM, fK]; omega
  · show (zt 900 1).toNat ≤ (s 900 1).toNat + 2000
    rw [fM, fK]; omega
theorem kcase_KT_polynomial {sc : List Int} {RC : zA → kM → Prop} {RU : Nat → kM → Prop} (hO : ∀ (a : Int) (_ : kR32 a) (b : Int) (_ : kR32 b), OB RC RU (f_KT_polynomial a b) (f_M_polynomial a b)) : kC_20 sc (kInv RC RU) := by
  intro a ha b hb
  rintro h ⟨s, rfl, hs, h9⟩
  obtain ⟨zx, zs, zt, e1, e2, hr⟩ := hO a ha b hb s hs
  have fK : zs 900 = s 900 := w_KT_polynomial a b s _ e1 900 (by decide)
  have fM : zt 900 = zs 900 := w_M_polynomial a b zs _ e2 900 (by decide)
  refine ⟨zx, hH zs, hH zt, (c_KT_polynomial a b s _ e1).mono (by decide), ⟨_, hH_O (rfl : kotab 85 = some kMo)⟩, (c_M_polynomial a b zs _ e2).mono (by decide), ⟨zt, rfl, hr, by rw [fM, fK]; exact h9⟩, ?_, ?_⟩
  · show 125 + 2 * (zt 900 0).toNat ≤ 125 + 2 * (s 900 0).toNat + 100
    rw [fM, fK]; omega
  · show (zt 900 1).toNat ≤ (s 900 1).toNat + 2000
    rw [fM, fK]; omega
theorem kcase_KT_shaken {sc : List Int} {RC : zA → kM → Prop} {RU : Nat → kM → Prop} (hO : OB RC RU f_KT_shaken f_M_shaken) : kC_21 sc (kInv RC RU) := by
  rintro h ⟨s, rfl, hs, h9⟩
  obtain ⟨zx, zs, zt, e1, e2, hr⟩ := hO s hs
  have fK : zs 900 = s 900 := w_KT_shaken s _ e1 900 (by decide)
  have fM : zt 900 = zs 900 := w_M_shaken zs _ e2 900 (by decide)
  refine ⟨zx, hH zs, hH zt, (c_KT_shaken s _ e1).mono (by decide), ⟨_, hH_O (rfl : kotab 85 = some kMo)⟩, (c_M_shaken zs _ e2).mono (by decide), ⟨zt, rfl, hr, by rw [fM, fK]; exact h9⟩, ?_, ?_⟩
  · show 125 + 2 * (zt 900 0).toNat ≤ 125 + 2 * (s 900 0).toNat + 100
    rw [fM, fK]; omega
  · show (zt 900 1).toNat ≤ (s 900 1).toNat + 2000
    rw [fM, fK]; omega
theorem kcase_KT_row {sc : List Int} {RC : zA → kM → Prop} {RU : Nat → kM → Prop} (hO : ∀ (a : Int) (_ : kR32 a) (b : Int) (_ : kR32 b), OB RC RU (f_KT_row a b) (f_M_row a b)) : kC_22 sc (kInv RC RU) := by
  intro a ha b hb
  rintro h ⟨s, rfl, hs, h9⟩
  obtain ⟨zx, zs, zt, e1, e2, hr⟩ := hO a ha b hb s hs
  have fK : zs 900 = s 900 := w_KT_row a b s _ e1 900 (by decide)
  have fM : zt 900 = zs 900 := w_M_row a b zs _ e2 900 (by decide)
  refine ⟨zx, hH zs, hH zt, (c_KT_row a b s _ e1).mono (by decide), ⟨_, hH_O (rfl : kotab 85 = some kMo)⟩, (c_M_row a b zs _ e2).mono (by decide), ⟨zt, rfl, hr, by rw [fM, fK]; exact h9⟩, ?_, ?_⟩
  · show 125 + 2 * (zt 900 0).toNat ≤ 125 + 2 * (s 900 0).toNat + 100
    rw [fM, fK]; omega
  · show (zt 900 1).toNat ≤ (s 900 1).toNat + 2000
    rw [fM, fK]; omega
theorem kcase_KT_changes {sc : List Int} {RC : zA → kM → Prop} {RU : Nat → kM → Prop} (hO : ∀ (a : Int) (_ : kR32 a), OB RC RU (f_KT_changes a) (f_M_changes a)) : kC_23 sc (kInv RC RU) := by
  intro a ha
  rintro h ⟨s, rfl, hs, h9⟩
  obtain ⟨zx, zs, zt, e1, e2, hr⟩ := hO a ha s hs
  have fK : zs 900 = s 900 := w_KT_changes a s _ e1 900 (by decide)
  have fM : zt 900 = zs 900 := w_M_changes a zs _ e2 900 (by decide)
  refine ⟨zx, hH zs, hH zt, (c_KT_changes a s _ e1).mono (by decide), ⟨_, hH_O (rfl : kotab 85 = some kMo)⟩, (c_M_changes a zs _ e2).mono (by decide), ⟨zt, rfl, hr, by rw [fM, fK]; exact h9⟩, ?_, ?_⟩
  · show 125 + 2 * (zt 900 0).toNat ≤ 125 + 2 * (s 900 0).toNat + 100
    rw [fM, fK]; omega
  · show (zt 900 1).toNat ≤ (s 900 1).toNat + 2000
    rw [fM, fK]; omega
theorem kcase_KT_gossip {sc : List Int} {RC : zA → kM → Prop} {RU : Nat → kM → Prop} (hO : ∀ (a : Int) (_ : kR32 a) (b : Int) (_ : kR32 b), OB RC RU (f_KT_gossip a b) (f_M_gossip a b)) : kC_24 sc (kInv RC RU) := by
  intro a ha b hb
  rintro h ⟨s, rfl, hs, h9⟩
  obtain ⟨zx, zs, zt, e1, e2, hr⟩ := hO a ha b hb s hs
  have fK : zs 900 = s 900 := w_KT_gossip a b s _ e1 900 (by decide)
  have fM : zt 900 = zs 900 := w_M_gossip a b zs _ e2 900 (by decide)
  refine ⟨zx, hH zs, hH zt, (c_KT_gossip a b s _ e1).mono (by decide), ⟨_, hH_O (rfl : kotab 85 = some kMo)⟩, (c_M_gossip a b zs _ e2).mono (by decide), ⟨zt, rfl, hr, by rw [fM, fK]; exact h9⟩, ?_, ?_⟩
  · show 125 + 2 * (zt 900 0).toNat ≤ 125 + 2 * (s 900 0).toNat + 100
    rw [fM, fK]; omega
  · show (zt 900 1).toNat ≤ (s 900 1).toNat + 2000
    rw [fM, fK]; omega
theorem kcase_KT_heard {sc : List Int} {RC : zA → kM → Prop} {RU : Nat → kM → Prop} (hO : ∀ (a : Int) (_ : kR32 a) (b : Int) (_ : kR32 b), OB RC RU (f_KT_heard a b) (f_M_heard a b)) : kC_25 sc (kInv RC RU) := by
  intro a ha b hb
  rintro h ⟨s, rfl, hs, h9⟩
  obtain ⟨zx, zs, zt, e1, e2, hr⟩ := hO a ha b hb s hs
  have fK : zs 900 = s 900 := w_KT_heard a b s _ e1 900 (by decide)
  have fM : zt 900 = zs 900 := w_M_heard a b zs _ e2 900 (by decide)
  refine ⟨zx, hH zs, hH zt, (c_KT_heard a b s _ e1).mono (by decide), ⟨_, hH_O (rfl : kotab 85 = some kMo)⟩, (c_M_heard a b zs _ e2).mono (by decide), ⟨zt, rfl, hr, by rw [fM, fK]; exact h9⟩, ?_, ?_⟩
  · show 125 + 2 * (zt 900 0).toNat ≤ 125 + 2 * (s 900 0).toNat + 100
    rw [fM, fK]; omega
  · show (zt 900 1).toNat ≤ (s 900 1).toNat + 2000
    rw [fM, fK]; omega
theorem kcase_KT_seed {sc : List Int} {RC : zA → kM → Prop} {RU : Nat → kM → Prop} (hO : ∀ (a : Int) (_ : kR32 a), OB RC RU (f_KT_seed a) (f_M_seed a)) : kC_26 sc (kInv RC RU) := by
  intro a ha
  rintro h ⟨s, rfl, hs, h9⟩
  obtain ⟨zx, zs, zt, e1, e2, hr⟩ := hO a ha s hs
  have fK : zs 900 = s 900 := w_KT_seed a s _ e1 900 (by decide)
  have fM : zt 900 = zs 900 := w_M_seed a zs _ e2 900 (by decide)
  refine ⟨zx, hH zs, hH zt, (c_KT_seed a s _ e1).mono (by decide), ⟨_, hH_O (rfl : kotab 85 = some kMo)⟩, (c_M_seed a zs _ e2).mono (by decide), ⟨zt, rfl, hr, by rw [fM, fK]; exact h9⟩, ?_, ?_⟩
  · show 125 + 2 * (zt 900 0).toNat ≤ 125 + 2 * (s 900 0).toNat + 100
    rw [fM, fK]; omega
  · show (zt 900 1).toNat ≤ (s 900 1).toNat + 2000
    rw [fM, fK]; omega
theorem kcase_KT_floods {sc : List Int} {RC : zA → kM → Prop} {RU : Nat → kM → Prop} (hO : ∀ (a : Int) (_ : kR32 a) (b : Int) (_ : kR32 b) (c : Int) (_ : kR32 c) (d : Int) (_ : kR32 d), OB RC RU (gP (f_KT_floods a b c d)) (f_M_floods a b c d)) : kC_27 sc (kInv RC RU) := by
  intro a ha b hb c hc d hd
  rintro h ⟨s, rfl, hs, h9⟩
  obtain ⟨zx, zs, zt, e1, e2, hr⟩ := hO a ha b hb c hc d hd s hs
  obtain ⟨e1, rfl⟩ := gP_inv e1
  have fK : zs 900 = zs 900 := rfl
  have fM : zt 900 = zs 900 := w_M_floods a b c d zs _ e2 900 (by decide)
  refine ⟨zx, hH zs, hH zt, (c_KT_floods a b c d zs _ e1).mono (by decide), ⟨_, hH_O (rfl : kotab 85 = some kMo)⟩, (c_M_floods a b c d zs _ e2).mono (by decide), ⟨zt, rfl, hr, by rw [fM, fK]; exact h9⟩, ?_, ?_⟩
  · show 125 + 2 * (zt 900 0).toNat ≤ 125 + 2 * (zs 900 0).toNat + 100
    rw [fM, fK]; omega
  · show (zt 900 1).toNat ≤ (zs 900 1).toNat + 2000
    rw [fM, fK]; omega
theorem kcase_KT_count {sc : List Int} {RC : zA → kM → Prop} {RU : Nat → kM → Prop} (hO : ∀ (a : Int) (_ : kR32 a), OB RC RU (f_KT_count a) (f_M_count a)) : kC_28 sc (kInv RC RU) := by
  intro a ha
  rintro h ⟨s, rfl, hs, h9⟩
  obtain ⟨zx, zs, zt, e1, e2, hr⟩ := hO a ha s hs
  have fK : zs 900 = s 900 := w_KT_count a s _ e1 900 (by decide)
  have fM : zt 900 = zs 900 := w_M_count a zs _ e2 900 (by decide)
  refine ⟨zx, hH zs, hH zt, (c_KT_count a s _ e1).mono (by decide), ⟨_, hH_O (rfl : kotab 85 = some kMo)⟩, (c_M_count a zs _ e2).mono (by decide), ⟨zt, rfl, hr, by rw [fM, fK]; exact h9⟩, ?_, ?_⟩
  · show 125 + 2 * (zt 900 0).toNat ≤ 125 + 2 * (s 900 0).toNat + 100
    rw [fM, fK]; omega
  · show (zt 900 1).toNat ≤ (s 900 1).toNat + 2000
    rw [fM, fK]; omega
theorem kcase_KT_image {sc : List Int} {RC : zA → kM → Prop} {RU : Nat → kM → Prop} (hO : ∀ (a : Int) (_ : kR32 a), OB RC RU (f_KT_image a) (f_M_image a)) : kC_29 sc (kInv RC RU) := by
  intro a ha
  rintro h ⟨s, rfl, hs, h9⟩
  obtain ⟨zx, zs, zt, e1, e2, hr⟩ := hO a ha s hs
  have fK : zs 900 = s 900 := w_KT_image a s _ e1 900 (by decide)
  have fM : zt 900 = zs 900 := w_M_image a zs _ e2 900 (by decide)
  refine ⟨zx, hH zs, hH zt, (c_KT_image a s _ e1).mono (by decide), ⟨_, hH_O (rfl : kotab 85 = some kMo)⟩, (c_M_image a zs _ e2).mono (by decide), ⟨zt, rfl, hr, by rw [fM, fK]; exact h9⟩, ?_, ?_⟩
  · show 125 + 2 * (zt 900 0).toNat ≤ 125 + 2 * (s 900 0).toNat + 100
    rw [fM, fK]; omega
  · show (zt 900 1).toNat ≤ (s 900 1).toNat + 2000
    rw [fM, fK]; omega
theorem kcase_KT_back {sc : List Int} {RC : zA → kM → Prop} {RU : Nat → kM → Prop} (hO : ∀ (a : Int) (_ : kR32 a), OB RC RU (f_KT_back a) (f_M_back a)) : kC_30 sc (kInv RC RU) := by
  intro a ha
  rintro h ⟨s, rfl, hs, h9⟩
  obtain ⟨zx, zs, zt, e1, e2, hr⟩ := hO a ha s hs
  have fK : zs 900 = s 900 := w_KT_back a s _ e1 900 (by decide)
  have fM : zt 900 = zs 900 := w_M_back a zs _ e2 900 (by decide)
  refine ⟨zx, hH zs, hH zt, (c_KT_back a s _ e1).mono (by decide), ⟨_, hH_O (rfl : kotab 85 = some kMo)⟩, (c_M_back a zs _ e2).mono (by decide), ⟨zt, rfl, hr, by rw [fM, fK]; exact h9⟩, ?_, ?_⟩
  · show 125 + 2 * (zt 900 0).toNat ≤ 125 + 2 * (s 900 0).toNat + 100
    rw [fM, fK]; omega
  · show (zt 900 1).toNat ≤ (s 900 1).toNat + 2000
    rw [fM, fK]; omega
