/-- x, and how often one got there, behind n times -/
def ft (A : zA) (p a b x : Nat) : Nat → Nat × Nat
  | 0 => (x, 0)
  | n + 1 => ((fs A p (ft A p a b x n).1 11).1, (ft A p a b x n).2 + if ga A (fs A p (ft A p a b x n).1 11).2 b 22 a = true ∨ ga A (fs A p (ft A p a b x n).1 11).2 a 22 b = true then 1 else 0)
theorem ft_s (A : zA) (p a b x n : Nat) : ft A p a b x (n + 1) = ((fs A p (ft A p a b x n).1 11).1, (ft A p a b x n).2 + if ga A (fs A p (ft A p a b x n).1 11).2 b 22 a = true ∨ ga A (fs A p (ft A p a b x n).1 11).2 a 22 b = true then 1 else 0) := rfl
theorem ft_lt (A : zA) (p a b : Nat) {x : Nat} (hx : x < 2147483648) : ∀ n, (ft A p a b x n).1 < 2147483648 ∧ (ft A p a b x n).2 ≤ n
  | 0 => ⟨hx, Nat.le_refl 0⟩
  | n + 1 => by
    obtain ⟨h1, h2⟩ := ft_lt A p a b hx n
    rw [ft_s]
    refine ⟨(fs_lt A p h1 11 (Nat.le_refl _)).1, ?_⟩
    dsimp only
    split <;> omega
section FLOOD
variable {A : zA} {s : kM}
theorem kdr {x : Nat} (hx : x < 2147483648) : krem (kdiv (x : Int) 65536) 100 = ((x / 65536 % 100 : Nat) : Int) := by
  have e5 : kdiv (x : Int) 65536 = ((x / 65536 : Nat) : Int) := kdiv_n (a := x) (b := 65536) hx (by decide) (by decide)
  rw [e5]
  exact krem_n (a := x / 65536) (b := 100) (by omega) (by decide) (by decide)
/-- one time on the class's side -/
theorem wp_flood49 (hA : okA A) (hK : KT 4 A s) {p a b x c i : Nat} (m : Int) (ha : a < aN A) (hb : b < aN A) (hx : x < 2147483648) (hc : c ≤ 20) (hi : i < 20) : wp (f_KT_floods_49 m p a b x c i 0 0 s) (fun r => r = Sum.inl (((fs A p x 11).1 : Int), ((c + if ga A (fs A p x 11).2 b 22 a = true ∨ ga A (fs A p x 11).2 a 22 b = true then 1 else 0 : Nat) : Int), ((i + 1 : Nat) : Int))) := by
  unfold f_KT_floods_49
  refine wp_for 11 (fun k z => z.1 = ((fs A p x k).1 : Int) ∧ z.2.1 = ((fs A p x k).2 : Int) ∧ z.2.2 = (k : Int)) 0 _ (by omega) (by omega) (by exact ⟨rfl, rfl, rfl⟩) ?_ ?_
  · rintro k ⟨y1, y2, y3⟩ _ hk ⟨rfl, rfl, rfl⟩
    obtain ⟨l1, -⟩ := fs_lt A p hx k (by omega)
    have l2 := fs_lt2 A p hx (n := k) (by omega)
    have hd := dr_lt (fs A p x k).1
    have hpow : 2 ^ k < 2147483648 := (Nat.pow_lt_pow_right (by decide) (by omega) : 2 ^ k < 2 ^ 31)
    have n11 : ¬ (11 : Int) ≤ (k : Int) := by omega
    have hwk : k < 2147483647 := by omega
    have k31 : k < 31 := by omega
    have l2' : (fs A p x k).2 < 2147483648 := by omega
    by_cases hp : pb A k = true
    · have hc1 : 0 ≤ (k : Int) ∧ (k : Int) < 11 ∧ pb A (k : Int).toNat = true := ⟨by omega, by omega, by rw [Int.toNat_natCast]; exact hp⟩
      have hfs := fs_s A p x k hp
      generalize fs A p x (k + 1) = w1 at hfs ⊢
      generalize hw0 : fs A p x k = w0 at l1 l2 l2' hd hfs ⊢
      have hstep : ∀ v : Int, v = ((if dr w0.1 / 65536 % 100 < p then 2 ^ k else 0 : Nat) : Int) → wp (f_KT_floods_72 m p a b ((dr w0.1 : Nat) : Int) c i k (w0.2 : Int) v s) (gE (fun z => z.1 = (w1.1 : Int) ∧ z.2.1 = (w1.2 : Int) ∧ z.2.2 = ((k + 1 : Nat) : Int)) (fun r => r = Sum.inl (((fs A p x 11).1 : Int), ((c + if ga A (fs A p x 11).2 b 22 a = true ∨ ga A (fs A p x 11).2 a 22 b = true then 1 else 0 : Nat) : Int), ((i + 1 : Nat) : Int)))) := by
        intro v hv
        unfold f_KT_floods_72 f_KT_floods_74
        rw [wp_some, gE_l, hfs]
        dsimp only
        rw [wI_s hwk]
        refine ⟨rfl, ?_, rfl⟩
        show kor (w0.2 : Int) v = ((w0.2 ||| (if dr w0.1 / 65536 % 100 < p then 2 ^ k else 0) : Nat) : Int)
        rw [hv]
        refine kor_n l2' ?_
        split
        · exact hpow
        · decide
      dsimp only
      unfold f_KT_floods_49b
      rw [if_neg n11, e_has hA hK, if_pos hc1, Option.bind_some, if_neg (by decide), e_drawnAfter l1, Option.bind_some, kdr hd]
      by_cases hlt : (p : Int) ≤ ((dr w0.1 / 65536 % 100 : Nat) : Int)
      · rw [if_pos hlt]
        exact hstep 0 (by rw [if_neg (by omega)]; rfl)
      · rw [if_neg hlt, kone k31]
        exact hstep _ (by rw [if_pos (by omega)])
    · have hc1 : ¬ (0 ≤ (k : Int) ∧ (k : Int) < 11 ∧ pb A (k : Int).toNat = true) := fun h => hp (by have := h.2.2; rwa [Int.toNat_natCast] at this)
      dsimp only
      unfold f_KT_floods_49b f_KT_floods_74
      rw [if_neg n11, e_has hA hK, if_neg hc1, Option.bind_some, if_pos rfl, wp_some, gE_l, fs_s' A p x k hp]
      dsimp only
      rw [wI_s hwk]
      exact ⟨rfl, rfl, rfl⟩
  · rintro ⟨y1, y2, y3⟩ ⟨rfl, rfl, rfl⟩
    have l2 := fs_lt2 A p hx (n := 11) (by omega)
    dsimp only
    generalize fs A p x 11 = w at l2 ⊢
    have e1 : (c : Int) + 1 = ((c + 1 : Nat) : Int) := by omega
    have e0 : (c : Int) + 0 = ((c + 0 : Nat) : Int) := by omega
    have hw1 : wI ((c : Int) + 1) = ((c + 1 : Nat) : Int) ∧ wI ((c : Int) + 0) = ((c + 0 : Nat) : Int) ∧ wI ((i : Int) + 1) = ((i + 1 : Nat) : Int) := ⟨wI_s (by omega), by rw [e0, wI_id (by omega) (by omega)], wI_s (by omega)⟩
    obtain ⟨u1, u2, u3⟩ := hw1
    have le11 : (11 : Int) ≤ ((11 : Nat) : Int) := by decide
    unfold f_KT_floods_49b f_KT_floods_89 f_KT_floods_92
    rw [if_pos le11, e_getsAlong hA hK ha hb l2, e_getsAlong hA hK hb ha l2, Option.bind_some, Option.bind_some, u1, u2, u3]
    by_cases h1 : ga A w.2 b 22 a = true
    · rw [if_pos h1, if_neg (by decide), if_pos (Or.inl h1), wp_map, wp_some, gE_r]
    · by_cases h2 : ga A w.2 a 22 b = true
      · rw [if_neg h1, if_pos rfl, if_pos h2, if_neg (by decide), if_pos (Or.inr h2), wp_map, wp_some, gE_r]
      · rw [if_neg h1, if_pos rfl, if_neg h2, if_pos rfl, if_neg (fun h => h.elim h1 h2), wp_map, wp_some, gE_r]
theorem wp_drawnFlood (hA : okA A) {p x : Nat} (hx : x < 2147483648) (hM : MT A s) (h4 : s 86 4 = x) : f_M_drawnFlood p s = some (((fs A p x 11).2 : Int), gU s 86 4 ((fs A p x 11).1 : Int)) := by
  unfold f_M_drawnFlood f_M_drawnFlood_4
  apply wp_eq
  refine wp_for 11 (fun k z => z.1 = ((fs A p x k).2 : Int) ∧ z.2.1 = (k : Int) ∧ z.2.2 = gU s 86 4 ((fs A p x k).1 : Int)) 0 _ (by omega) (by omega) ⟨rfl, rfl, ?_⟩ ?_ ?_
  · dsimp only
    funext z j
    by_cases hz : z = 86
    · subst hz
      by_cases hj : j = 4
      · rw [hj, gUs, h4]; rfl
      · rw [gUo _ _ _ hj]
    · rw [gUn _ _ _ hz]
  · rintro k ⟨y1, y2, y3⟩ _ hk ⟨rfl, rfl, rfl⟩
    obtain ⟨l1, -⟩ := fs_lt A p hx k (by omega)
    have l2 := fs_lt2 A p hx (n := k) (by omega)
    have hd := dr_lt (fs A p x k).1
    have hpow : 2 ^ k < 2147483648 := (Nat.pow_lt_pow_right (by decide) (by omega) : 2 ^ k < 2 ^ 31)
    have hM2 : MT A (gU s 86 4 ((fs A p x k).1 : Int)) := MT_c hM ⟨gUo _ _ _ (by decide), gUo _ _ _ (by decide), gUo _ _ _ (by decide)⟩ (gU_n _ _ _ (by decide)) (gU_n _ _ _ (by decide)) (gU_n _ _ _ (by decide)) (gU_n _ _ _ (by decide)) (gU_n _ _ _ (by decide))
    have hdr := e_draws (x := (fs A p x k).1) l1 (s := gU s 86 4 ((fs A p x k).1 : Int)) (gUs _ _ _ _)
    have hgg : gU (gU s 86 4 ((fs A p x k).1 : Int)) 86 4 ((dr (fs A p x k).1 : Nat) : Int) = gU s 86 4 ((dr (fs A p x k).1 : Nat) : Int) := by
      funext z j
      by_cases hz : z = 86
      · subst hz
        by_cases hj : j = 4
        · rw [hj, gUs, gUs]
        · rw [gUo _ _ _ hj, gUo _ _ _ hj, gUo _ _ _ hj]
      · rw [gUn _ _ _ hz, gUn _ _ _ hz, gUn _ _ _ hz]
    rw [hgg] at hdr
    clear hgg
    simp only [f_M_drawnFlood_4b, f_M_drawnFlood_24, f_M_drawnFlood_22, e_M_isBridge hA hM2, hdr, Option.bind_some, wp_ite, wp_some, gE_l, Int.toNat_natCast]
    refine ⟨fun q => by omega, fun _ => ⟨fun q => ?_, fun q => ?_⟩⟩
    · have hp : ¬ pb A k = true := fun h => by rw [if_pos ⟨by omega, by omega, h⟩] at q; omega
      rw [fs_s' A p x k hp]
      exact ⟨rfl, wI_s (by omega), rfl⟩
    · have hp : pb A k = true := by
        by_cases h : pb A k = true
        · exact h
        · rw [if_neg (fun z => h z.2.2)] at q; omega
      rw [fs_s A p x k hp]
      refine ⟨fun q2 => ⟨?_, wI_s (by omega), rfl⟩, fun q2 => ⟨?_, wI_s (by omega), rfl⟩⟩
      · rw [if_neg (by omega)]
        exact kor_n (b := 0) (by omega) (by decide)
      · rw [if_pos (by omega), kone (by omega), kor_n (by omega) hpow]
  · rintro ⟨y1, y2, y3⟩ ⟨rfl, rfl, rfl⟩
    simp only [f_M_drawnFlood_4b, wp_ite, wp_some, gE_r]
    exact ⟨fun _ => trivial, fun q => absurd (by omega : (11 : Int) ≤ ((11 : Nat) : Int)) q⟩
end FLOOD
section TOWN
variable {RC : zA → kM → Prop} {RU : Nat → kM → Prop}
theorem O_floods (m p a b : Int) : OB RC RU (gP (f_KT_floods m p a b)) (f_M_floods m p a b) := by
  intro s hs
  have hs' := hs
  obtain ⟨A, hA, hK, hM, -, q5, -⟩ := hs'
  have hn := okB_n hA.1
  obtain ⟨x, hx⟩ : ∃ x : Nat, s 3 3 = x := ⟨(s 3 3).toNat, by have := q5.2.2.2.2.2.1; omega⟩
  have hxl : x < 2147483648 := by have := q5.2.2.2.2.2.2; omega
  have hx4 : s 86 4 = x := by rw [← q5.2.2.2.2.1]; exact hx
  by_cases c : (1 ≤ m ∧ m ≤ 20) ∧ (0 ≤ p ∧ p ≤ 100) ∧ (0 ≤ a ∧ a < aN A) ∧ (0 ≤ b ∧ b < aN A) ∧ ((aF A : Int) ≤ a ↔ (aF A : Int) ≤ b)
  · obtain ⟨⟨c1, c2⟩, ⟨c3, c4⟩, ⟨c5, c6⟩, ⟨c7, c8⟩, c9⟩ := c
    obtain ⟨M, rfl⟩ : ∃ M : Nat, m = (M : Int) := ⟨m.toNat, by omega⟩
    obtain ⟨P, rfl⟩ : ∃ P : Nat, p = (P : Int) := ⟨p.toNat, by omega⟩
    obtain ⟨y, rfl⟩ : ∃ y : Nat, a = (y : Int) := ⟨a.toNat, by omega⟩
    obtain ⟨z, rfl⟩ : ∃ z : Nat, b = (z : Int) := ⟨b.toNat, by omega⟩
    have hy : y < aN A := by omega
    have hz : z < aN A := by omega
    have hyz : y < aF A ↔ z < aF A := by omega
    have hk : f_KT_floods M P y z s = some ((ft A P y z x M).2 : Int) := by
      unfold f_KT_floods
      rw [if_neg (by omega), if_neg (by omega), if_neg (by omega), if_neg (by omega), e_hasPlace hK, e_hasPlace hK, e_roadOf hK, e_roadOf hK, if_pos (by omega), if_pos (by omega), hx]
      simp only [Option.bind_some, show ¬ ((1 : Int) = 0) by decide, if_false]
      rw [if_pos (by by_cases h : (aF A : Int) ≤ y <;> simp [h, c9.mp, c9] <;> omega)]
      unfold f_KT_floods_42
      apply wp_eq
      refine wp_for M (fun k w => w.1 = ((ft A P y z x k).1 : Int) ∧ w.2.1 = ((ft A P y z x k).2 : Int) ∧ w.2.2 = (k : Int)) 0 _ (by omega) (by omega) (by exact ⟨rfl, rfl, rfl⟩) ?_ ?_
      · rintro k ⟨w1, w2, w3⟩ _ hkM ⟨rfl, rfl, rfl⟩
        obtain ⟨l1, l2⟩ := ft_lt A P y z hxl k
        simp only [f_KT_floods_42b, wp_ite]
        refine ⟨fun q => by omega, fun _ => ?_⟩
        refine (wp_flood49 hA hK (M : Int) hy hz l1 (c := (ft A P y z x k).2) (i := k) (by omega) (by omega)).mono ?_
        rintro r rfl
        rw [gE_l, ft_s]
        exact ⟨rfl, rfl, rfl⟩
      · rintro ⟨w1, w2, w3⟩ ⟨rfl, rfl, rfl⟩
        simp only [f_KT_floods_42b, wp_ite, wp_some, gE_r]
        exact ⟨fun _ => trivial, fun q => absurd (Int.le_refl _) q⟩
    have hm : f_M_floods M P y z s = some (((ft A P y z x M).2 : Int), s) := by
      unfold f_M_floods
      rw [e_M_in, e_M_in, e_M_isPlace hA.1 hM.1, e_M_isPlace hA.1 hM.1, e_M_roadOf hM.1, e_M_roadOf hM.1, if_pos (by omega), if_pos (by omega), if_pos (by omega), if_pos (by omega)]
      simp only [Option.bind_some, show ¬ ((1 : Int) = 0) by decide, if_false]
      rw [if_pos (by by_cases h : (aF A : Int) ≤ y <;> simp [h, c9.mp, c9] <;> omega), hx4]
      unfold f_M_floods_38
      apply wp_eq
      refine wp_for M (fun k w => w.1 = ((ft A P y z x k).2 : Int) ∧ w.2.1 = (k : Int) ∧ w.2.2 = gU s 86 4 ((ft A P y z x k).1 : Int)) 0 _ (by omega) (by omega) ⟨rfl, rfl, ?_⟩ ?_ ?_
      · dsimp only
        funext u j
        by_cases hu : u = 86
        · subst hu
          by_cases hj : j = 4
          · rw [hj, gUs, hx4]; rfl
          · rw [gUo _ _ _ hj]
        · rw [gUn _ _ _ hu]
      · rintro k ⟨w1, w2, w3⟩ _ hkM ⟨rfl, rfl, rfl⟩
        obtain ⟨l1, l2⟩ := ft_lt A P y z hxl k
        have l3 := fs_lt2 A P l1 (n := 11) (by omega)
        have hMk : ∀ v : Int, MT A (gU s 86 4 v) := fun v => MT_c hM ⟨gUo _ _ _ (by decide), gUo _ _ _ (by decide), gUo _ _ _ (by decide)⟩ (gU_n _ _ _ (by decide)) (gU_n _ _ _ (by decide)) (gU_n _ _ _ (by decide)) (gU_n _ _ _ (by decide)) (gU_n _ _ _ (by decide))
        have hdf := wp_drawnFlood hA (p := P) l1 (hMk _) (gUs s 86 4 ((ft A P y z x k).1 : Int))
        have hgg : ∀ v w : Int, gU (gU s 86 4 v) 86 4 w = gU s 86 4 w := by
          intro v w
          funext u j
          by_cases hu : u = 86
          · subst hu
            by_cases hj : j = 4
            · rw [hj, gUs, gUs]
            · rw [gUo _ _ _ hj, gUo _ _ _ hj, gUo _ _ _ hj]
          · rw [gUn _ _ _ hu, gUn _ _ _ hu, gUn _ _ _ hu]
        rw [hgg] at hdf
        simp only [f_M_floods_38b, f_M_floods_61, f_M_floods_58, hdf, e_M_gets hA (hMk _) hy hz hyz l3, e_M_gets hA (hMk _) hz hy hyz.symm l3, Option.bind_some, wp_ite, wp_some, gE_l]
        rw [ft_s]
        refine ⟨fun q => by omega, fun _ => ⟨fun q1 => ⟨fun q2 => ?_, fun q2 => ?_⟩, fun q1 => ?_⟩⟩
        · have h1 : ¬ ga A (fs A P (ft A P y z x k).1 11).2 z 22 y = true := fun h => by rw [if_pos h] at q1; omega
          have h2 : ¬ ga A (fs A P (ft A P y z x k).1 11).2 y 22 z = true := fun h => by rw [if_pos h] at q2; omega
          rw [if_neg (fun h => h.elim h1 h2), wI_s (by omega), wI_id (by omega) (by omega)]
          simp
        · have h2 : ga A (fs A P (ft A P y z x k).1 11).2 y 22 z = true := by
            by_cases h : ga A (fs A P (ft A P y z x k).1 11).2 y 22 z = true
            · exact h
            · rw [if_neg h] at q2; omega
          rw [if_pos (Or.inr h2), wI_s (by omega), wI_id (by omega) (by omega)]
          exact ⟨rfl, rfl, rfl⟩
        · have h1 : ga A (fs A P (ft A P y z x k).1 11).2 z 22 y = true := by
            by_cases h : ga A (fs A P (ft A P y z x k).1 11).2 z 22 y = true
            · exact h
            · rw [if_neg h] at q1; omega
          rw [if_pos (Or.inl h1), wI_s (by omega), wI_id (by omega) (by omega)]
          exact ⟨rfl, rfl, rfl⟩
      · rintro ⟨w1, w2, w3⟩ ⟨rfl, rfl, rfl⟩
        simp only [f_M_floods_38b, wp_ite, wp_some, wp_gLet, gE_r]
        refine ⟨fun _ => ?_, fun q => absurd (Int.le_refl _) q⟩
        congr 1
        funext u j
        by_cases hu : u = 86
        · subst hu
          by_cases hj : j = 4
          · rw [hj, gUs, hx4]
          · rw [gUo _ _ _ hj, gUo _ _ _ hj]
        · rw [gUn _ _ _ hu, gUn _ _ _ hu]
    refine ⟨((ft A P y z x M).2 : Int), s, s, ?_, hm, hs⟩
    unfold gP
    rw [hk]
    rfl
  · have hk : f_KT_floods m p a b s = some (-1) := by
      unfold f_KT_floods
      rw [e_hasPlace hK, e_hasPlace hK, e_roadOf hK, e_roadOf hK]
      simp only [Option.bind_some]
      by_cases h1 : m < 1
      · rw [if_pos h1]
      rw [if_neg h1]
      by_cases h2 : 20 < m
      · rw [if_pos h2]
      rw [if_neg h2]
      by_cases h3 : p < 0
      · rw [if_pos h3]
      rw [if_neg h3]
      by_cases h4 : 100 < p
      · rw [if_pos h4]
      rw [if_neg h4]
      by_cases h5 : 0 ≤ a ∧ a < aN A
      · rw [if_pos h5, if_neg (by decide)]
        by_cases h6 : 0 ≤ b ∧ b < aN A
        · rw [if_pos h6, if_neg (by decide), if_neg]
          intro q
          apply c
          refine ⟨by omega, by omega, h5, h6, ?_⟩
          by_cases h7 : (aF A : Int) ≤ a <;> by_cases h8 : (aF A : Int) ≤ b
          · exact ⟨fun _ => h8, fun _ => h7⟩
          · rw [if_pos h7, if_neg h8] at q; omega
          · rw [if_neg h7, if_pos h8] at q; omega
          · exact ⟨fun w => absurd w h7, fun w => absurd w h8⟩
        · rw [if_neg h6, if_pos rfl]
      · rw [if_neg h5, if_pos rfl]
    have hm : f_M_floods m p a b s = some (-1, s) := by
      unfold f_M_floods
      rw [e_M_in, e_M_in, e_M_isPlace hA.1 hM.1, e_M_isPlace hA.1 hM.1, e_M_roadOf hM.1, e_M_roadOf hM.1]
      simp only [Option.bind_some]
      by_cases h1 : 1 ≤ m ∧ m ≤ 20
      · rw [if_pos h1, if_neg (by decide)]
        by_cases h3 : 0 ≤ p ∧ p ≤ 100
        · rw [if_pos h3, if_neg (by decide)]
          by_cases h5 : 0 ≤ a ∧ a < aN A
          · rw [if_pos h5, if_neg (by decide)]
            by_cases h6 : 0 ≤ b ∧ b < aN A
            · rw [if_pos h6, if_neg (by decide), if_neg]
              intro q
              apply c
              refine ⟨h1, h3, h5, h6, ?_⟩
              by_cases h7 : (aF A : Int) ≤ a <;> by_cases h8 : (aF A : Int) ≤ b
              · exact ⟨fun _ => h8, fun _ => h7⟩
              · rw [if_pos h7, if_neg h8] at q; omega
              · rw [if_neg h7, if_pos h8] at q; omega
              · exact ⟨fun w => absurd w h7, fun w => absurd w h8⟩
            · rw [if_neg h6, if_pos rfl]
          · rw [if_neg h5, if_pos rfl]
        · rw [if_neg h3, if_pos rfl]
      · rw [if_neg h1, if_pos rfl]
    refine ⟨-1, s, s, ?_, hm, hs⟩
    unfold gP
    rw [hk]
    rfl
end TOWN
