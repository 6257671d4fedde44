def TN (A : zA) (b : Nat) (f : Nat → Int) : Prop := ∀ e, e < 2 * aN A → bre A e < b → f e = ((tn A e : Nat) : Int)
def tw (a1 a2 a3 a4 : Nat) (f : Nat → Int) : Nat → Int := kup (kup (kup (kup f a1 (a2 : Int)) a2 (a3 : Int)) a3 (a4 : Int)) a4 (a1 : Int)
theorem tw_at {a1 a2 a3 a4 : Nat} (h12 : a1 ≠ a2) (h13 : a1 ≠ a3) (h14 : a1 ≠ a4) (h23 : a2 ≠ a3) (h24 : a2 ≠ a4) (h34 : a3 ≠ a4) (f : Nat → Int) : tw a1 a2 a3 a4 f a1 = (a2 : Int) ∧ tw a1 a2 a3 a4 f a2 = (a3 : Int) ∧ tw a1 a2 a3 a4 f a3 = (a4 : Int) ∧ tw a1 a2 a3 a4 f a4 = (a1 : Int) ∧ ∀ e, e ≠ a1 → e ≠ a2 → e ≠ a3 → e ≠ a4 → tw a1 a2 a3 a4 f e = f e := by
  unfold tw kup
  refine ⟨?_, ?_, ?_, ?_, fun e e1 e2 e3 e4 => ?_⟩
  · rw [if_neg h14, if_neg h13, if_neg h12, if_pos rfl]
  · rw [if_neg h24, if_neg h23, if_pos rfl]
  · rw [if_neg h34, if_pos rfl]
  · rw [if_pos rfl]
  · rw [if_neg e4, if_neg e3, if_neg e2, if_neg e1]
theorem ah_1 {A : zA} (hA : okA A) {b : Nat} (hb : pb A b = true) : ah A b ≤ 1 := hA.2.2.2.2 b (pb_iff.mp hb)
theorem TN_step {A : zA} (hA : okA A) {b : Nat} (hb : pb A b = true) {f : Nat → Int} (h : TN A b f) : TN A (b + 1) (tw (en A (oA A b) 0) (en A (uA A b) ((ah A b + 1) % 2)) (en A (oA A b) 1) (en A (uA A b) (ah A b % 2)) f) := by
  obtain ⟨-, h2, -, h4⟩ := oA_lt hA hb
  obtain ⟨x1, x2, x3, x4⟩ := tn_o hA hb
  have hh := ah_1 hA hb
  have hou : oA A b ≠ uA A b := fun q => by rw [q] at x3; omega
  have P : ∀ k, k < 2 → plc A (en A (oA A b) k) = oA A b ∧ en A (oA A b) k % 2 = k := fun k hk => plc_en hA.1 h2 hk
  have Q : ∀ k, k < 2 → plc A (en A (uA A b) k) = uA A b ∧ en A (uA A b) k % 2 = k := fun k hk => plc_en hA.1 h4 hk
  have dif : ∀ k l, k < 2 → l < 2 → en A (oA A b) k ≠ en A (uA A b) l := fun k l hk hl q => hou (by rw [← (P k hk).1, q, (Q l hl).1])
  have d13 : en A (oA A b) 0 ≠ en A (oA A b) 1 := fun q => by have := (P 0 (by omega)).2; rw [q, (P 1 (by omega)).2] at this; omega
  have d24 : en A (uA A b) ((ah A b + 1) % 2) ≠ en A (uA A b) (ah A b % 2) := fun q => by
    have := (Q ((ah A b + 1) % 2) (by omega)).2
    rw [q, (Q (ah A b % 2) (by omega)).2] at this
    omega
  obtain ⟨t1, t2, t3, t4, t5⟩ := tw_at (dif 0 _ (by omega) (by omega)) d13 (dif 0 _ (by omega) (by omega)) (Ne.symm (dif 1 ((ah A b + 1) % 2) (by omega) (by omega))) d24 (dif 1 (ah A b % 2) (by omega) (by omega)) f
  have T := tn_4 hA hb
  intro e he hbe
  by_cases hlt : bre A e < b
  · have bo : ∀ k, k < 2 → bre A (en A (oA A b) k) = b ∧ bre A (en A (uA A b) k) = b := fun k hk => by
      unfold bre
      rw [(P k hk).1, (Q k hk).1, x3, x4]
      omega
    have ne : ∀ a, bre A a = b → e ≠ a := fun a ha q => by rw [q, ha] at hlt; omega
    rw [t5 e (ne _ (bo _ (by omega)).1) (ne _ (bo _ (by omega)).2) (ne _ (bo _ (by omega)).1) (ne _ (bo _ (by omega)).2)]
    exact h e he hlt
  · have hb2 : ap A (plc A e) / 2 = b := by
      have : bre A e = ap A (plc A e) / 2 := rfl
      omega
    have hpl := plc_lt hA.1 he
    have hee := en_plc hA.1 he
    have k2 : e % 2 = 0 ∨ e % 2 = 1 := by omega
    by_cases hv : ap A (plc A e) % 2 = 1
    · have hp : plc A e = oA A b := hA.1.2.2.2.2 _ _ hpl h2 (by omega)
      rw [hp] at hee
      rcases k2 with k2 | k2
      · rw [k2] at hee
        rw [← hee, t1, (T 0 (by omega)).1, Nat.add_zero]
      · rw [k2] at hee
        rw [← hee, t3, (T 1 (by omega)).1, show (ah A b + 1 + 1) % 2 = ah A b % 2 by omega]
    · have hp : plc A e = uA A b := hA.1.2.2.2.2 _ _ hpl h4 (by omega)
      rw [hp] at hee
      by_cases kk : e % 2 = ah A b % 2
      · rw [kk] at hee
        rw [← hee, t4, (T (ah A b % 2) (by omega)).2, show (ah A b + ah A b % 2) % 2 = 0 by omega]
      · rw [show e % 2 = (ah A b + 1) % 2 by omega] at hee
        rw [← hee, t2, (T ((ah A b + 1) % 2) (by omega)).2, show (ah A b + (ah A b + 1) % 2) % 2 = 1 by omega]
theorem TN_no {A : zA} (hA : okA A) {b : Nat} (hb : ¬ pb A b = true) {f : Nat → Int} (h : TN A b f) : TN A (b + 1) f := by
  intro e he hbe
  by_cases hlt : bre A e < b
  · exact h e he hlt
  · have : bre A e = b := by omega
    exact absurd (pb_iff.mpr ⟨plc A e, plc_lt hA.1 he, this⟩) hb
theorem bre_lt {A : zA} (hA : okB A) {e : Nat} (he : e < 2 * aN A) : bre A e < 11 := by
  have := hA.2.2.2.1 (plc A e) (plc_lt hA he)
  unfold bre
  omega
/-- the reference: first half -/
theorem wp_M_turns {A : zA} {a1 a2 a3 a4 : Nat} (h1 : a1 < 44) (h2 : a2 < 44) (h3 : a3 < 44) (h4 : a4 < 44) (s : kM) : f_M_turns a1 a2 a3 a4 s = some (gA s 100 (tw a1 a2 a3 a4 (s 100))) := by
  unfold f_M_turns
  rw [gI_n h1, Option.bind_some, gLet_eq, gI_n h2, Option.bind_some, gLet_eq, gI_n h3, Option.bind_some, gLet_eq, gI_n h4, Option.bind_some, gLet_eq]
  congr 1
  unfold tw
  rw [show gU s 100 a1 (a2 : Int) = gA s 100 (kup (s 100) a1 (a2 : Int)) from rfl, gUA, gUA, gUA]
theorem en_w {A : zA} (hA : okB A) {p : Nat} (hp : p < aN A) : wI (2 * (p : Int)) = ((en A p 0 : Nat) : Int) ∧ wI (wI (2 * ((pv (aF A) (aN A) p : Nat) : Int)) + 1) = ((en A p 1 : Nat) : Int) := by
  have := okB_n hA
  have := pv_lt hA hp
  have e1 : wI (2 * ((pv (aF A) (aN A) p : Nat) : Int)) = ((2 * pv (aF A) (aN A) p : Nat) : Int) := by rw [wI_id (by omega) (by omega)]; omega
  refine ⟨?_, ?_⟩
  · rw [wI_id (by omega) (by omega)]
    unfold en
    rw [if_pos rfl]
    omega
  · rw [e1, wI_s (by omega)]
    unfold en
    rw [if_neg (by decide)]
theorem wp_M_fill2 {A : zA} (hA : okA A) {s : kM} (hM : MT A s) {Q : kM → Prop} (hQ : ∀ t : kM, (∀ z, z ≠ 100 → t z = s z) → TN A 11 (t 100) → wp (f_M_fillsLand_68 0 t) Q) : wp (f_M_fillsLand s) Q := by
  have hn := okB_n hA.1
  unfold f_M_fillsLand f_M_fillsLand_2
  refine wp_for 11 (fun b x => x.1 = (b : Int) ∧ (∀ z, z ≠ 100 → x.2 z = s z) ∧ TN A b (x.2 100)) 0 _ (by omega) (by omega) (by exact ⟨rfl, fun _ _ => rfl, fun e _ h => by omega⟩) ?_ ?_
  · rintro b ⟨y, w⟩ _ hb ⟨rfl, q1, q2⟩
    dsimp only at q1 q2
    have hMw : MT A w := MT_k hM (fun a h1 h2 => q1 a (by omega))
    have n11 : ¬ (11 : Int) ≤ (b : Int) := by omega
    dsimp only
    unfold f_M_fillsLand_2b
    rw [if_neg n11, e_M_isBridge hA hMw, Option.bind_some, Int.toNat_natCast]
    by_cases hp : pb A b = true
    · obtain ⟨h1, h2, h3, h4⟩ := oA_lt hA hp
      have hh := ah_1 hA hp
      have e98 : w 98 b = ((oA A b : Nat) : Int) := by rw [(hMw.2 b hb).1, h1]
      have e99 : w 99 b = ((uA A b : Nat) : Int) := by rw [(hMw.2 b hb).2, h3]
      have e89 := hMw.1.2.2.2.2 b (pb_iff.mp hp)
      have i0 : gI 11 (b : Int) = some b := gI_n hb
      have L := fun k => en_lt hA.1 (k := k) h2
      have L2 := fun k => en_lt hA.1 (k := k) h4
      have b1 : en A (oA A b) 0 < 44 := by have := L 0; omega
      have b2 : en A (oA A b) 1 < 44 := by have := L 1; omega
      have b3 : en A (uA A b) 0 < 44 := by have := L2 0; omega
      have b4 : en A (uA A b) 1 < 44 := by have := L2 1; omega
      have st := TN_step hA hp q2
      have fin : wp (f_M_fillsLand_64 b (gA w 100 (tw (en A (oA A b) 0) (en A (uA A b) ((ah A b + 1) % 2)) (en A (oA A b) 1) (en A (uA A b) (ah A b % 2)) (w 100)))) (gE (fun x => x.1 = ((b + 1 : Nat) : Int) ∧ (∀ z, z ≠ 100 → x.2 z = s z) ∧ TN A (b + 1) (x.2 100)) Q) := by
        unfold f_M_fillsLand_64
        rw [wp_some, gE_l]
        dsimp only
        rw [wI_s (by omega), gA_s]
        exact ⟨rfl, fun z hz => by rw [gAn _ _ hz]; exact q1 z hz, st⟩
      rw [if_pos (show 0 ≤ (b : Int) ∧ (b : Int) < 11 ∧ pb A b = true from ⟨by omega, by omega, hp⟩), if_neg (show ¬ (1 : Int) = 0 by decide), i0, Option.bind_some, Option.bind_some, Option.bind_some, e98, e_M_ahead hA.1 hMw.1 h2, Option.bind_some, Option.bind_some, e99, e_M_ahead hA.1 hMw.1 h4, Option.bind_some, Option.bind_some, e89, (en_w hA.1 h2).1, (en_w hA.1 h2).2, (en_w hA.1 h4).1, (en_w hA.1 h4).2]
      have h01 : ah A b = 0 ∨ ah A b = 1 := by omega
      rcases h01 with h0 | h0
      · rw [h0] at fin ⊢
        rw [if_neg (by decide), wp_M_turns (A := A) b1 b4 b2 b3, Option.bind_some]
        exact fin
      · rw [h0] at fin ⊢
        rw [if_pos (by decide), wp_M_turns (A := A) b1 b3 b2 b4, Option.bind_some]
        exact fin
    · rw [if_neg (show ¬ (0 ≤ (b : Int) ∧ (b : Int) < 11 ∧ pb A b = true) from fun q => hp q.2.2), if_pos rfl]
      unfold f_M_fillsLand_64
      rw [wp_some, gE_l]
      dsimp only
      rw [wI_s (by omega)]
      exact ⟨rfl, q1, TN_no hA hp q2⟩
  · rintro ⟨y, w⟩ ⟨rfl, q1, q2⟩
    dsimp only at q1 q2
    dsimp only
    unfold f_M_fillsLand_2b
    rw [if_pos (show (11 : Int) ≤ ((11 : Nat) : Int) by decide), wp_map]
    exact (hQ w q1 q2).mono (fun a ha => ha)
