/-! COLOURS: rows by a prime -/
def cg (p a b : Int) : Prop := ∃ q, a = b + p * q
def un (p u : Int) : Prop := ∃ w q, u * w = 1 + p * q
def clr (d c n : Nat) (p : Int) (g : Nat → Int) : Nat → Int := fun j => if (d < j / 13 ∧ j / 13 < n) ∧ g (13 * (j / 13) + c) ≠ 0 then (g (13 * d + c) * g j - g (13 * (j / 13) + c) * g (13 * d + j % 13)) % p else g j
def gjo (rk c n B : Nat) (p inv : Int) (f : Nat → Int) : Nat → Int := fun j => if (j / 13 < n ∧ j / 13 ≠ rk) ∧ j % 13 < B then (f j - (f (13 * (j / 13) + c) % p * inv % p) * (f (13 * rk + j % 13) % p)) % p else f j
theorem cg_mod (p a : Int) : cg p (a % p) a := ⟨-(a / p), by have := Int.emod_add_mul_ediv a p; grind⟩
theorem cg_0 {p a : Int} (h : a % p = 0) : ∃ q, a = p * q := ⟨a / p, by have := Int.emod_add_mul_ediv a p; omega⟩
theorem cg_z {p g u f : Int} (hu : un p u) (h : cg p g (u * f)) : g % p = 0 ↔ f % p = 0 := by
  obtain ⟨q, hq⟩ := h
  obtain ⟨w, q2, hw⟩ := hu
  constructor
  · intro h0
    obtain ⟨k, hk⟩ := cg_0 h0
    apply Int.emod_eq_zero_of_dvd
    exact ⟨w * (k - q) - f * q2, by grind⟩
  · intro h0
    obtain ⟨k, hk⟩ := cg_0 h0
    apply Int.emod_eq_zero_of_dvd
    exact ⟨u * k + q, by grind⟩
theorem un_1 (p : Int) : un p 1 := ⟨1, 0, by omega⟩
theorem un_mul {p a b : Int} (ha : un p a) (hb : un p b) : un p (a * b) := by
  obtain ⟨w1, q1, h1⟩ := ha
  obtain ⟨w2, q2, h2⟩ := hb
  exact ⟨w1 * w2, q1 + q2 + p * q1 * q2, by grind⟩
theorem rg1 {p fr inv a6 a7 a8 : Int} (h : (fr + p * a6) * inv + p * a7 = 1 + p * a8) : inv * fr = 1 + p * (a8 - a7 - a6 * inv) := by grind
theorem rg2 {p u ud f fr fc fk inv q1 q2 q3 q4 q5 a1 a2 a3 a4 a5 : Int} (h : inv * fr = 1 + p * q5) : (ud * fr + p * q3) * (u * f + p * q1) - (u * fc + p * q2) * (ud * fk + p * q4) + p * a1 = ud * fr * u * (f - ((fc + p * a4) * inv + p * a3) * (fk + p * a5) + p * a2) + p * (u * f * q3 + ud * fr * q1 + p * q1 * q3 - u * fc * q4 - ud * fk * q2 - p * q2 * q4 + ud * u * fc * fk * q5 + a1 - ud * fr * u * a2 + ud * fr * u * ((a4 * inv + a3) * (fk + p * a5) + fc * inv * a5)) := by grind
theorem un_inv {p fr inv : Int} (h5 : (fr % p) * inv % p = 1 % p) : ∃ q5, inv * fr = 1 + p * q5 := by
  obtain ⟨a6, b6⟩ := cg_mod p fr
  obtain ⟨a7, b7⟩ := cg_mod p ((fr % p) * inv)
  obtain ⟨a8, b8⟩ := cg_mod p 1
  exact ⟨_, rg1 (a6 := a6) (a7 := a7) (a8 := a8) (by rw [← b6, ← b7, h5, b8])⟩
/-- one row below -/
theorem cg_row {p g h d e u ud f fr fc fk inv : Int} (h1 : cg p g (u * f)) (h2 : cg p h (u * fc)) (h3 : cg p d (ud * fr)) (h4 : cg p e (ud * fk)) (h5 : (fr % p) * inv % p = 1 % p) : cg p ((d * g - h * e) % p) (ud * fr * u * ((f - (fc % p * inv % p) * (fk % p)) % p)) := by
  obtain ⟨q1, h1⟩ := h1
  obtain ⟨q2, h2⟩ := h2
  obtain ⟨q3, h3⟩ := h3
  obtain ⟨q4, h4⟩ := h4
  obtain ⟨a1, b1⟩ := cg_mod p (d * g - h * e)
  obtain ⟨a2, b2⟩ := cg_mod p (f - (fc % p * inv % p) * (fk % p))
  obtain ⟨a3, b3⟩ := cg_mod p (fc % p * inv)
  obtain ⟨a4, b4⟩ := cg_mod p fc
  obtain ⟨a5, b5⟩ := cg_mod p fk
  obtain ⟨q5, k5⟩ := un_inv h5
  rw [b1, b2, b3, b4, b5, h1, h2, h3, h4]
  exact ⟨_, rg2 k5⟩
theorem cg_keep {p g u f fc inv fk : Int} (h1 : cg p g (u * f)) (h0 : fc % p = 0) : cg p g (u * ((f - (fc % p * inv % p) * (fk % p)) % p)) := by
  obtain ⟨q1, h1⟩ := h1
  rw [h0, Int.zero_mul, Int.zero_emod, Int.zero_mul, Int.sub_zero]
  obtain ⟨a1, b1⟩ := cg_mod p f
  rw [b1]
  exact ⟨q1 - u * a1, by grind⟩
def CI (p : Int) (n B rk : Nat) (g f : Nat → Int) : Prop := (∀ j, j < 13 * n → 0 ≤ g j ∧ g j < p) ∧ (∀ j, j < 13 * n → -4 ≤ f j ∧ f j ≤ 12) ∧ ∀ r, rk ≤ r → r < n → ∃ u, un p u ∧ ∀ k, k < B → cg p (g (13 * r + k)) (u * f (13 * r + k))
theorem CI_z {p : Int} {n B rk c : Nat} {g f : Nat → Int} (h : CI p n B rk g f) (hB : B ≤ 13) (hc : c < B) (i : Nat) (h1 : rk ≤ i) (h2 : i < n) : g (13 * i + c) = 0 ↔ f (13 * i + c) % p = 0 := by
  obtain ⟨c1, c2, c3⟩ := h
  obtain ⟨u, hu, hk⟩ := c3 i h1 h2
  rw [← cg_z hu (hk c hc)]
  have := c1 (13 * i + c) (by omega)
  rw [Int.emod_eq_of_lt this.1 this.2]
theorem CI_swr {p : Int} {n B rk i : Nat} {g f : Nat → Int} (h : CI p n B rk g f) (hB : B ≤ 13) (h1 : rk ≤ i) (h2 : i < n) : CI p n B rk (swr i rk g) (swr i rk f) := by
  obtain ⟨c1, c2, c3⟩ := h
  refine ⟨fun j hj => ?_, fun j hj => ?_, fun r h3 h4 => ?_⟩
  · unfold swr
    split
    · exact c1 _ (by omega)
    · split
      · exact c1 _ (by omega)
      · exact c1 _ hj
  · unfold swr
    split
    · exact c2 _ (by omega)
    · split
      · exact c2 _ (by omega)
      · exact c2 _ hj
  · have key : ∃ r', (rk ≤ r' ∧ r' < n) ∧ ∀ k, k < B → swr i rk g (13 * r + k) = g (13 * r' + k) ∧ swr i rk f (13 * r + k) = f (13 * r' + k) := by
      by_cases hi : r = i
      · refine ⟨rk, ⟨by omega, by omega⟩, fun k hk => ?_⟩
        unfold swr
        rw [if_pos (by omega), if_pos (by omega), show (13 * r + k) % 13 = k by omega]
        exact ⟨rfl, rfl⟩
      · by_cases hr : r = rk
        · refine ⟨i, ⟨by omega, by omega⟩, fun k hk => ?_⟩
          unfold swr
          rw [if_neg (show ¬ (13 * r + k) / 13 = i by omega), if_neg (show ¬ (13 * r + k) / 13 = i by omega), if_pos (show (13 * r + k) / 13 = rk by omega), if_pos (show (13 * r + k) / 13 = rk by omega), show (13 * r + k) % 13 = k by omega]
          exact ⟨rfl, rfl⟩
        · refine ⟨r, ⟨by omega, by omega⟩, fun k hk => ?_⟩
          unfold swr
          rw [if_neg (by omega), if_neg (by omega), if_neg (by omega), if_neg (by omega)]
          exact ⟨rfl, rfl⟩
    obtain ⟨r', ⟨h5, h6⟩, h7⟩ := key
    obtain ⟨u, hu, hk⟩ := c3 r' h5 h6
    exact ⟨u, hu, fun k hkB => by rw [(h7 k hkB).1, (h7 k hkB).2]; exact hk k hkB⟩
theorem CI_row {p : Int} (hp : 0 < p) (hp2 : p ≤ 13) {n B rk c : Nat} {g f : Nat → Int} (h : CI p n B rk g f) (hB : B ≤ 13) (hc : c < B) (hr : rk < n) {inv : Int} (hi : (f (13 * rk + c) % p) * inv % p = 1 % p) : CI p n B (rk + 1) (clr rk c n p g) (gjo rk c n B p inv f) := by
  have hz := fun i h1 h2 => CI_z h hB hc i h1 h2
  obtain ⟨c1, c2, c3⟩ := h
  refine ⟨fun j hj => ?_, fun j hj => ?_, fun r h3 h4 => ?_⟩
  · unfold clr
    split
    · exact ⟨Int.emod_nonneg _ (by omega), Int.emod_lt_of_pos _ hp⟩
    · exact c1 j hj
  · unfold gjo
    split
    · have x1 := Int.emod_nonneg (f j - (f (13 * (j / 13) + c) % p * inv % p) * (f (13 * rk + j % 13) % p)) (b := p) (by omega)
      have x2 := Int.emod_lt_of_pos (f j - (f (13 * (j / 13) + c) % p * inv % p) * (f (13 * rk + j % 13) % p)) hp
      omega
    · exact c2 j hj
  · obtain ⟨u, hu, hk⟩ := c3 r (by omega) h4
    obtain ⟨ud, hud, hkd⟩ := c3 rk (by omega) hr
    have hz2 := hz r (by omega) h4
    have e1 : ∀ k, k < B → (13 * r + k) / 13 = r ∧ (13 * r + k) % 13 = k := fun k hk => by omega
    by_cases h0 : g (13 * r + c) = 0
    · refine ⟨u, hu, fun k hkB => ?_⟩
      unfold clr gjo
      rw [(e1 k hkB).1, (e1 k hkB).2, if_neg (fun q => q.2 h0), if_pos ⟨⟨h4, by omega⟩, hkB⟩]
      exact cg_keep (hk k hkB) (hz2.mp h0)
    · refine ⟨ud * f (13 * rk + c) * u, un_mul (un_mul hud ?_) hu, fun k hkB => ?_⟩
      · obtain ⟨q5, k5⟩ := un_inv hi
        exact ⟨inv, q5, by rw [Int.mul_comm]; exact k5⟩
      · unfold clr gjo
        rw [(e1 k hkB).1, (e1 k hkB).2, if_pos ⟨⟨by omega, h4⟩, h0⟩, if_pos ⟨⟨h4, by omega⟩, hkB⟩]
        exact cg_row (hk k hkB) (hk c hc) (hkd c hc) (hkd k hkB) hi
/-- how many rows the class finds -/
def krk (p : Int) (n : Nat) : Nat → (Nat → Int) → Nat → Nat → Nat
  | 0, _, _, rk => rk
  | m + 1, g, c, rk => if fpv g c rk (n - rk) = n then krk p n m g (c + 1) rk else krk p n m (clr rk c n p (swr (fpv g c rk (n - rk)) rk g)) (c + 1) (rk + 1)
theorem krk_s (p : Int) (n m : Nat) (g : Nat → Int) (c rk : Nat) : krk p n (m + 1) g c rk = if fpv g c rk (n - rk) = n then krk p n m g (c + 1) rk else krk p n m (clr rk c n p (swr (fpv g c rk (n - rk)) rk g)) (c + 1) (rk + 1) := rfl
theorem krk_n (p : Int) (n : Nat) : ∀ m g c, krk p n m g c n = n
  | 0, _, _ => rfl
  | m + 1, g, c => by
    rw [krk_s, Nat.sub_self, if_pos (show fpv g c n 0 = n from rfl)]
    exact krk_n p n m g (c + 1)
