section KS
variable {p : Program} {l : Launch} {e : Env} {R : Room} {s : State} {mid : MethodId} {args : Array Value} {below : List Frame} {meth : Method} {cc : Code} {c base : Nat} {ad : Nat → Nat} {cT : Nat → ClassId} {D : va_G} {sc : List Int} {n0 m0 : Nat} {Q : State → Prop} {pc : Nat} {L : kLs} {st : List kV} {h : kH}

theorem kup_ok {P : Int → Prop} {f : Nat → Int} {k : Nat} {x : Int} (h : ∀ j, P (f j)) (hx : P x) : ∀ j, P (kup f k x j) := by
  intro j
  unfold kup
  split
  · exact hx
  · exact h j
theorem kz_iastore {a n : Nat} {f : Nat → Int} {i x : Int} (hC : kCx p s mid args meth cc c base ad cT D sc) (hd : decode (kaq c).2.1 (kofs c pc) = .ok (.iastore, 1)) (ho : kofs c (pc + 1) = kofs c pc + 1) (ha : h.2.2 a = some (.inl (0, n, f))) (h0 : 0 ≤ i) (h1 : i < n)
    (k : kZ p l e R s mid args below meth cc c base ad cT D n0 m0 Q (pc + 1) L st (kput h a (.inl (0, n, kup f i.toNat (x))))) : kZ p l e R s mid args below meth cc c base ad cT D n0 m0 Q pc L (.inl x :: .inl i :: .inr (.inr (.inl (some a))) :: st) h := by
  intro H ls locs hH hL hst hS hn hm
  obtain ⟨hv0, hst⟩ := List.forall_mem_cons.mp hst
  obtain ⟨hv1, hst⟩ := List.forall_mem_cons.mp hst
  obtain ⟨-, hst⟩ := List.forall_mem_cons.mp hst
  have hok : kEOK (.inl (0, n, f)) := (hH.2 a _ ha).2.1
  have hin := kn_in hv1 h0 h1
  refine W.iast hC.1 hC.2.1 (hH.2 a _ ha).2.2 ((hC.2.2.2.2.2.2.2.2.1.2 0 _ rfl).1 n (fun j => .int (Int32.ofInt (f j)))) (fun q => by cases q) (by show ¬ (_ < 0 ∨ (arrV _ _ _).slots.size ≤ _); rw [arrV_size]; exact hin) rfl rfl hd fun H1 e1 z1 oq => ?_
  have hat : va_at D kCl (base + a, kce base ad cT (.inl (0, n, kup f i.toNat (x)))) H1 := by
    show H1[base + a]? = some (vp_cell _ _)
    rw [e1]
    rw [vp_cell_i, vp_cell_i, arrV_store]
    congr 2
    funext q
    rw [kn_clamp hv1]
    by_cases hq : q = i.toNat
    · subst hq
      simp [updV, kup]
    · simp [updV, kup, hq]
  have this := k H1 ls _ (hH.put ha ⟨hok.1, kup_ok hok.2 hv0⟩ z1 oq hat) hL hst (kS_put (k := (Int32.ofInt i).toNatClampNeg) hS z1 oq) hn hm
  rw [ho] at this
  exact this
theorem kz_bastore1 {a n : Nat} {f : Nat → Int} {i x : Int} (hC : kCx p s mid args meth cc c base ad cT D sc) (hd : decode (kaq c).2.1 (kofs c pc) = .ok (.bastore, 1)) (ho : kofs c (pc + 1) = kofs c pc + 1) (ha : h.2.2 a = some (.inl (1, n, f))) (h0 : 0 ≤ i) (h1 : i < n)
    (k : kZ p l e R s mid args below meth cc c base ad cT D n0 m0 Q (pc + 1) L st (kput h a (.inl (1, n, kup f i.toNat (ki2b x))))) : kZ p l e R s mid args below meth cc c base ad cT D n0 m0 Q pc L (.inl x :: .inl i :: .inr (.inr (.inl (some a))) :: st) h := by
  intro H ls locs hH hL hst hS hn hm
  obtain ⟨hv0, hst⟩ := List.forall_mem_cons.mp hst
  obtain ⟨hv1, hst⟩ := List.forall_mem_cons.mp hst
  obtain ⟨-, hst⟩ := List.forall_mem_cons.mp hst
  have hok : kEOK (.inl (1, n, f)) := (hH.2 a _ ha).2.1
  have hin := kn_in hv1 h0 h1
  refine W.bast hC.1 hC.2.1 (hH.2 a _ ha).2.2 ((hC.2.2.2.2.2.2.2.2.1.2 1 _ rfl).1 n (fun j => .int (Int32.ofInt (f j)))) (fun q => by cases q) (by show ¬ (_ < 0 ∨ (arrV _ _ _).slots.size ≤ _); rw [arrV_size]; exact hin) rfl rfl hd fun H1 e1 z1 oq => ?_
  have hat : va_at D kCl (base + a, kce base ad cT (.inl (1, n, kup f i.toNat (ki2b x)))) H1 := by
    show H1[base + a]? = some (vp_cell _ _)
    rw [e1]
    rw [vp_cell_i, vp_cell_i, arrV_store]
    congr 2
    funext q
    rw [kn_clamp hv1]
    by_cases hq : q = i.toNat
    · subst hq
      simp only [ki2b, Int32.ofInt_toInt, updV, kup, narrow, if_true]
    · simp [updV, kup, hq]
  have this := k H1 ls _ (hH.put ha ⟨hok.1, kup_ok hok.2 (kn_r _)⟩ z1 oq hat) hL hst (kS_put (k := (Int32.ofInt i).toNatClampNeg) hS z1 oq) hn hm
  rw [ho] at this
  exact this
theorem kz_bastore4 {a n : Nat} {f : Nat → Int} {i x : Int} (hC : kCx p s mid args meth cc c base ad cT D sc) (hd : decode (kaq c).2.1 (kofs c pc) = .ok (.bastore, 1)) (ho : kofs c (pc + 1) = kofs c pc + 1) (ha : h.2.2 a = some (.inl (4, n, f))) (h0 : 0 ≤ i) (h1 : i < n) (hx01 : x = 0 ∨ x = 1)
    (k : kZ p l e R s mid args below meth cc c base ad cT D n0 m0 Q (pc + 1) L st (kput h a (.inl (4, n, kup f i.toNat (x))))) : kZ p l e R s mid args below meth cc c base ad cT D n0 m0 Q pc L (.inl x :: .inl i :: .inr (.inr (.inl (some a))) :: st) h := by
  intro H ls locs hH hL hst hS hn hm
  obtain ⟨hv0, hst⟩ := List.forall_mem_cons.mp hst
  obtain ⟨hv1, hst⟩ := List.forall_mem_cons.mp hst
  obtain ⟨-, hst⟩ := List.forall_mem_cons.mp hst
  have hok : kEOK (.inl (4, n, f)) := (hH.2 a _ ha).2.1
  have hin := kn_in hv1 h0 h1
  refine W.zast hC.1 hC.2.1 (hH.2 a _ ha).2.2 ((hC.2.2.2.2.2.2.2.2.1.2 4 _ rfl).1 n (fun j => .int (Int32.ofInt (f j)))) (fun q => by cases q) (by show ¬ (_ < 0 ∨ (arrV _ _ _).slots.size ≤ _); rw [arrV_size]; exact hin) rfl rfl hd fun H1 e1 z1 oq => ?_
  have hat : va_at D kCl (base + a, kce base ad cT (.inl (4, n, kup f i.toNat (x)))) H1 := by
    show H1[base + a]? = some (vp_cell _ _)
    rw [e1]
    rw [vp_cell_i, vp_cell_i, arrV_store]
    congr 2
    funext q
    rw [kn_clamp hv1]
    by_cases hq : q = i.toNat
    · subst hq
      rcases hx01 with rfl | rfl <;> simp [updV, kup, narrow] <;> rfl
    · simp [updV, kup, hq]
  have this := k H1 ls _ (hH.put ha ⟨hok.1, kup_ok hok.2 hv0⟩ z1 oq hat) hL hst (kS_put (k := (Int32.ofInt i).toNatClampNeg) hS z1 oq) hn hm
  rw [ho] at this
  exact this
theorem kz_sastore {a n : Nat} {f : Nat → Int} {i x : Int} (hC : kCx p s mid args meth cc c base ad cT D sc) (hd : decode (kaq c).2.1 (kofs c pc) = .ok (.sastore, 1)) (ho : kofs c (pc + 1) = kofs c pc + 1) (ha : h.2.2 a = some (.inl (2, n, f))) (h0 : 0 ≤ i) (h1 : i < n)
    (k : kZ p l e R s mid args below meth cc c base ad cT D n0 m0 Q (pc + 1) L st (kput h a (.inl (2, n, kup f i.toNat (ki2s x))))) : kZ p l e R s mid args below meth cc c base ad cT D n0 m0 Q pc L (.inl x :: .inl i :: .inr (.inr (.inl (some a))) :: st) h := by
  intro H ls locs hH hL hst hS hn hm
  obtain ⟨hv0, hst⟩ := List.forall_mem_cons.mp hst
  obtain ⟨hv1, hst⟩ := List.forall_mem_cons.mp hst
  obtain ⟨-, hst⟩ := List.forall_mem_cons.mp hst
  have hok : kEOK (.inl (2, n, f)) := (hH.2 a _ ha).2.1
  have hin := kn_in hv1 h0 h1
  refine W.sast hC.1 hC.2.1 (hH.2 a _ ha).2.2 ((hC.2.2.2.2.2.2.2.2.1.2 2 _ rfl).1 n (fun j => .int (Int32.ofInt (f j)))) (fun q => by cases q) (by show ¬ (_ < 0 ∨ (arrV _ _ _).slots.size ≤ _); rw [arrV_size]; exact hin) rfl rfl hd fun H1 e1 z1 oq => ?_
  have hat : va_at D kCl (base + a, kce base ad cT (.inl (2, n, kup f i.toNat (ki2s x)))) H1 := by
    show H1[base + a]? = some (vp_cell _ _)
    rw [e1]
    rw [vp_cell_i, vp_cell_i, arrV_store]
    congr 2
    funext q
    rw [kn_clamp hv1]
    by_cases hq : q = i.toNat
    · subst hq
      simp only [ki2s, Int32.ofInt_toInt, updV, kup, narrow, if_true]
    · simp [updV, kup, hq]
  have this := k H1 ls _ (hH.put ha ⟨hok.1, kup_ok hok.2 (kn_r _)⟩ z1 oq hat) hL hst (kS_put (k := (Int32.ofInt i).toNatClampNeg) hS z1 oq) hn hm
  rw [ho] at this
  exact this
theorem kz_lastore {a n : Nat} {f : Nat → Int} {i x : Int} (hC : kCx p s mid args meth cc c base ad cT D sc) (hd : decode (kaq c).2.1 (kofs c pc) = .ok (.lastore, 1)) (ho : kofs c (pc + 1) = kofs c pc + 1) (ha : h.2.2 a = some (.inl (3, n, f))) (h0 : 0 ≤ i) (h1 : i < n)
    (k : kZ p l e R s mid args below meth cc c base ad cT D n0 m0 Q (pc + 1) L st (kput h a (.inl (3, n, kup f i.toNat (x))))) : kZ p l e R s mid args below meth cc c base ad cT D n0 m0 Q pc L (.inr (.inl x) :: .inl i :: .inr (.inr (.inl (some a))) :: st) h := by
  intro H ls locs hH hL hst hS hn hm
  obtain ⟨hv0, hst⟩ := List.forall_mem_cons.mp hst
  obtain ⟨hv1, hst⟩ := List.forall_mem_cons.mp hst
  obtain ⟨-, hst⟩ := List.forall_mem_cons.mp hst
  have hok : kEOK (.inl (3, n, f)) := (hH.2 a _ ha).2.1
  have hin := kn_in hv1 h0 h1
  refine W.last hC.1 hC.2.1 (hH.2 a _ ha).2.2 ((hC.2.2.2.2.2.2.2.2.1.2 3 _ rfl).1 n (fun j => .long (Int64.ofInt (f j)))) (fun q => by cases q) (by show ¬ (_ < 0 ∨ (arrV _ _ _).slots.size ≤ _); rw [arrV_size]; exact hin) rfl rfl hd fun H1 e1 z1 oq => ?_
  have hat : va_at D kCl (base + a, kce base ad cT (.inl (3, n, kup f i.toNat (x)))) H1 := by
    show H1[base + a]? = some (vp_cell _ _)
    rw [e1]
    rw [vp_cell_l, vp_cell_l, arrV_store]
    congr 2
    funext q
    rw [kn_clamp hv1]
    by_cases hq : q = i.toNat
    · subst hq
      simp [updV, kup]
    · simp [updV, kup, hq]
  have this := k H1 ls _ (hH.put ha ⟨hok.1, kup_ok hok.2 hv0⟩ z1 oq hat) hL hst (kS_put (k := (Int32.ofInt i).toNatClampNeg) hS z1 oq) hn hm
  rw [ho] at this
  exact this
theorem kz_aastore {a b n ci : Nat} {f : Nat → Option Nat} {fs : List kV} {i : Int} (hC : kCx p s mid args meth cc c base ad cT D sc) (hd : decode (kaq c).2.1 (kofs c pc) = .ok (.aastore, 1)) (ho : kofs c (pc + 1) = kofs c pc + 1) (hci : ci = 4 ∨ ci = 7) (ha : h.2.2 a = some (.inr (.inl (ci, n, f)))) (hb : h.2.2 b = some (.inr (.inr (ci, fs)))) (h0 : 0 ≤ i) (h1 : i < n)
    (k : kZ p l e R s mid args below meth cc c base ad cT D n0 m0 Q (pc + 1) L st (kput h a (.inr (.inl (ci, n, kup f i.toNat (some b)))))) : kZ p l e R s mid args below meth cc c base ad cT D n0 m0 Q pc L (.inr (.inr (.inl (some b))) :: .inl i :: .inr (.inr (.inl (some a))) :: st) h := by
  intro H ls locs hH hL hst hS hn hm
  obtain ⟨-, hst⟩ := List.forall_mem_cons.mp hst
  obtain ⟨hv1, hst⟩ := List.forall_mem_cons.mp hst
  obtain ⟨-, hst⟩ := List.forall_mem_cons.mp hst
  have hok : kEOK (.inr (.inl (ci, n, f))) := (hH.2 a _ ha).2.1
  have hin := kn_in hv1 h0 h1
  have hK := hC.2.2.2.2.2.2.2.2.1
  obtain ⟨t0, ht0, hl12⟩ : ∃ t0 : Nat, (ktys cT)[t0]? = some (cT (10 + ci), .object (kcq ci).1) ∧ ci < 12 := by
    rcases hci with rfl | rfl
    · exact ⟨5, rfl, by decide⟩
    · exact ⟨6, rfl, by decide⟩
  obtain ⟨c1, -⟩ := kCa_ok ci hl12
  obtain ⟨r', hr', cellV, g1, g2, g3, -⟩ := (hH.2 b _ hb).2.2
  have hcls := (hK.1 ci _ c1).2
  obtain ⟨kA, comp, k1, k2, k3, -⟩ := (hK.2 t0 _ ht0).2
  have hcomp : comp = D.1 ci := Option.some.inj (k3.symm.trans hcls.1)
  subst hcomp
  obtain ⟨kC, hkC, -⟩ := id hcls.2
  have hlt : (Int32.ofInt i).toNatClampNeg < n := Nat.not_le.mp fun q => hin (Or.inr q)
  have hn0 : ¬ Int32.ofInt i < 0 := fun q => hin (Or.inl q)
  refine W.aast hC.1 hC.2.1 (hH.2 a _ ha).2.2 (fun q h => by cases h) (fun h => by cases h) k1 k2 rfl hkC ⟨hn0, by show _ < (arrV _ _ _).slots.size; rw [arrV_size]; exact hlt⟩ g1 (fun q h => by rw [g3] at h; cases h) (by rw [g2]; exact hkC) (by rw [g2]; exact va_assign hcls) rfl rfl hd fun H1 e1 z1 oq => ?_
  have hat : va_at D kCl (base + a, kce base ad cT (.inr (.inl (ci, n, kup f i.toNat (some b))))) H1 := by
    show H1[base + a]? = some (vp_cell _ _)
    rw [e1]
    rw [vp_cell_q, vp_cell_q, arrV_store]
    congr 2
    funext q
    rw [kn_clamp hv1]
    by_cases hq : q = i.toNat
    · subst hq
      simp [updV, kup, va_rf]
    · simp [updV, kup, hq]
  have this := k H1 ls _ (hH.put ha hok z1 oq hat) hL hst (kS_put (k := (Int32.ofInt i).toNatClampNeg) hS z1 oq) hn hm
  rw [ho] at this
  exact this
theorem kz_arraylength {a n t : Nat} {f : Nat → Int} (hC : kCx p s mid args meth cc c base ad cT D sc) (hd : decode (kaq c).2.1 (kofs c pc) = .ok (.arraylength, 1)) (ho : kofs c (pc + 1) = kofs c pc + 1) (ht : t ≤ 4) (ha : h.2.2 a = some (.inl (t, n, f))) (k : kZ p l e R s mid args below meth cc c base ad cT D n0 m0 Q (pc + 1) L (.inl n :: st) h) : kZ p l e R s mid args below meth cc c base ad cT D n0 m0 Q pc L (.inr (.inr (.inl (some a))) :: st) h := by
  intro H ls locs hH hL hst hS hn hm
  obtain ⟨-, hst⟩ := List.forall_mem_cons.mp hst
  have hok := (hH.2 a _ ha).2.1
  have hn1 : n ≤ 1000000 := by
    rcases (show t = 3 ∨ t ≠ 3 by omega) with rfl | h3
    · exact hok.1
    · unfold kEOK at hok
      split at hok
      · rename_i hh; cases hh; exact absurd rfl h3
      · rename_i hh; cases hh; exact hok.1
      · rename_i hh; cases hh
      · rename_i hh; cases hh
  have this := k H ls locs hH hL (List.forall_mem_cons.mpr ⟨by show kR32 _; unfold kR32; omega, hst⟩) hS hn hm
  rw [ho] at this
  have hP := kP1 hH ha
  have hK := hC.2.2.2.2.2.2.2.2.1
  rcases (show t = 0 ∨ t = 1 ∨ t = 2 ∨ t = 3 ∨ t = 4 by omega) with rfl | rfl | rfl | rfl | rfl
  · exact va_alen hC.1 hC.2.1 hK hP 0 0 rfl rfl rfl hd this
  · exact va_alen hC.1 hC.2.1 hK hP 0 1 rfl rfl rfl hd this
  · exact va_alen hC.1 hC.2.1 hK hP 0 2 rfl rfl rfl hd this
  · exact va_alen hC.1 hC.2.1 hK hP 0 3 rfl rfl rfl hd this
  · exact va_alen hC.1 hC.2.1 hK hP 0 4 rfl rfl rfl hd this
theorem kz_scload {i : Int} (hC : kCx p s mid args meth cc c base ad cT D sc) (hd : decode (kaq c).2.1 (kofs c pc) = .ok (.iaload, 1)) (ho : kofs c (pc + 1) = kofs c pc + 1) (h0 : 0 ≤ i) (h1 : i < sc.length) (k : kZ p l e R s mid args below meth cc c base ad cT D n0 m0 Q (pc + 1) L (.inl (sc.getD i.toNat 0) :: st) h) : kZ p l e R s mid args below meth cc c base ad cT D n0 m0 Q pc L (.inl i :: .inr (.inr (.inr 99)) :: st) h := by
  intro H ls locs hH hL hst hS hn hm
  obtain ⟨hv0, hst⟩ := List.forall_mem_cons.mp hst
  obtain ⟨-, hst⟩ := List.forall_mem_cons.mp hst
  obtain ⟨-, -, -, -, -, ⟨s1, s2, s3, s4⟩, s5⟩ := hC.2.2.2.2.2.2.2.2
  have hlt : i.toNat < sc.length := by omega
  have hm1 : sc.getD i.toNat 0 ∈ sc := by
    rw [List.getD_eq_getElem?_getD, List.getElem?_eq_getElem hlt]
    exact List.getElem_mem hlt
  have this := k H ls locs hH hL (List.forall_mem_cons.mpr ⟨s4 _ hm1, hst⟩) hS hn hm
  rw [ho] at this
  simp only [List.map_cons, kc] at this ⊢
  rw [← kn_clamp hv0] at this
  exact va_sld hC.1 hC.2.1 s1 (Nat.lt_of_lt_of_le s2 s5) (Nat.not_le.mpr s2) hS (kn_in hv0 h0 h1) hd this
theorem kz_sclen (hC : kCx p s mid args meth cc c base ad cT D sc) (hd : decode (kaq c).2.1 (kofs c pc) = .ok (.arraylength, 1)) (ho : kofs c (pc + 1) = kofs c pc + 1) (k : kZ p l e R s mid args below meth cc c base ad cT D n0 m0 Q (pc + 1) L (.inl sc.length :: st) h) : kZ p l e R s mid args below meth cc c base ad cT D n0 m0 Q pc L (.inr (.inr (.inr 99)) :: st) h := by
  intro H ls locs hH hL hst hS hn hm
  obtain ⟨-, hst⟩ := List.forall_mem_cons.mp hst
  obtain ⟨-, -, -, -, -, ⟨s1, s2, s3, s4⟩, s5⟩ := hC.2.2.2.2.2.2.2.2
  have this := k H ls locs hH hL (List.forall_mem_cons.mpr ⟨by show kR32 _; unfold kR32; omega, hst⟩) hS hn hm
  rw [ho] at this
  exact va_slen hC.1 hC.2.1 s1 (Nat.lt_of_lt_of_le s2 s5) (Nat.not_le.mpr s2) hS hd this
theorem kz_newarray_int {n : Int} (hC : kCx p s mid args meth cc c base ad cT D sc) (hd : decode (kaq c).2.1 (kofs c pc) = .ok (.newarray .int, 2)) (ho : kofs c (pc + 1) = kofs c pc + 2) (h0 : 0 ≤ n) (h1 : n ≤ 1000000) (hc1 : h.1 + 1 - n0 ≤ R.cells) (hs1 : h.2.1 + n.toNat - m0 ≤ R.slots)
    (k : kZ p l e R s mid args below meth cc c base ad cT D n0 m0 Q (pc + 1) L (.inr (.inr (.inl (some h.1))) :: st) (kadd h n.toNat (.inl (0, n.toNat, fun _ => 0)))) : kZ p l e R s mid args below meth cc c base ad cT D n0 m0 Q pc L (.inl n :: st) h := by
  intro H ls locs hH hL hst hS hn hm
  obtain ⟨hv0, hst⟩ := List.forall_mem_cons.mp hst
  have hnn : ¬ Int32.ofInt n < 0 := fun q => by
    have := (kn_lt hv0 kn_0).mp q
    omega
  refine va_newaK hC.1 hC.2.1 (atype := .int) (hC.2.2.2.2.2.2.1 _ kAw_int) rfl hd rfl hnn (kn_clamp hv0) (by show n.toNat * 4 ≤ 536870912; omega) (by omega) (by omega) rfl fun H1 cA e1 z1 o1 hAr hNm => ?_
  have hcA : cA = cT 0 := Option.some.inj (hNm.symm.trans (hC.2.2.2.2.2.2.2.2.1.2 0 _ rfl).2)
  subst hcA
  have hat : va_at D kCl (H.size, kce base ad cT (.inl (0, n.toNat, fun _ => 0))) H1 := e1
  have this := k H1 ls locs (hH.add (z := n.toNat) ⟨by omega, fun _ => kn_0⟩ z1 o1 hat) hL (List.forall_mem_cons.mpr ⟨trivial, hst⟩) (kS_add hS z1 o1) (by simp only [kadd]; omega) (by simp only [kadd]; omega)
  rw [ho] at this
  simp only [kadd, List.map_cons, kc, ← hH.1] at this
  rw [show h.1 + 1 - n0 = h.1 - n0 + 1 by omega, show h.2.1 + n.toNat - m0 = h.2.1 - m0 + n.toNat by omega] at this
  exact this
theorem kz_newarray_byte {n : Int} (hC : kCx p s mid args meth cc c base ad cT D sc) (hd : decode (kaq c).2.1 (kofs c pc) = .ok (.newarray .byte, 2)) (ho : kofs c (pc + 1) = kofs c pc + 2) (h0 : 0 ≤ n) (h1 : n ≤ 1000000) (hc1 : h.1 + 1 - n0 ≤ R.cells) (hs1 : h.2.1 + n.toNat - m0 ≤ R.slots)
    (k : kZ p l e R s mid args below meth cc c base ad cT D n0 m0 Q (pc + 1) L (.inr (.inr (.inl (some h.1))) :: st) (kadd h n.toNat (.inl (1, n.toNat, fun _ => 0)))) : kZ p l e R s mid args below meth cc c base ad cT D n0 m0 Q pc L (.inl n :: st) h := by
  intro H ls locs hH hL hst hS hn hm
  obtain ⟨hv0, hst⟩ := List.forall_mem_cons.mp hst
  have hnn : ¬ Int32.ofInt n < 0 := fun q => by
    have := (kn_lt hv0 kn_0).mp q
    omega
  refine va_newaK hC.1 hC.2.1 (atype := .byte) (hC.2.2.2.2.2.2.1 _ kAw_byte) rfl hd rfl hnn (kn_clamp hv0) (by show n.toNat * 1 ≤ 536870912; omega) (by omega) (by omega) rfl fun H1 cA e1 z1 o1 hAr hNm => ?_
  have hcA : cA = cT 1 := Option.some.inj (hNm.symm.trans (hC.2.2.2.2.2.2.2.2.1.2 1 _ rfl).2)
  subst hcA
  have hat : va_at D kCl (H.size, kce base ad cT (.inl (1, n.toNat, fun _ => 0))) H1 := e1
  have this := k H1 ls locs (hH.add (z := n.toNat) ⟨by omega, fun _ => kn_0⟩ z1 o1 hat) hL (List.forall_mem_cons.mpr ⟨trivial, hst⟩) (kS_add hS z1 o1) (by simp only [kadd]; omega) (by simp only [kadd]; omega)
  rw [ho] at this
  simp only [kadd, List.map_cons, kc, ← hH.1] at this
  rw [show h.1 + 1 - n0 = h.1 - n0 + 1 by omega, show h.2.1 + n.toNat - m0 = h.2.1 - m0 + n.toNat by omega] at this
  exact this
theorem kz_newarray_short {n : Int} (hC : kCx p s mid args meth cc c base ad cT D sc) (hd : decode (kaq c).2.1 (kofs c pc) = .ok (.newarray .short, 2)) (ho : kofs c (pc + 1) = kofs c pc + 2) (h0 : 0 ≤ n) (h1 : n ≤ 1000000) (hc1 : h.1 + 1 - n0 ≤ R.cells) (hs1 : h.2.1 + n.toNat - m0 ≤ R.slots)
    (k : kZ p l e R s mid args below meth cc c base ad cT D n0 m0 Q (pc + 1) L (.inr (.inr (.inl (some h.1))) :: st) (kadd h n.toNat (.inl (2, n.toNat, fun _ => 0)))) : kZ p l e R s mid args below meth cc c base ad cT D n0 m0 Q pc L (.inl n :: st) h := by
  intro H ls locs hH hL hst hS hn hm
  obtain ⟨hv0, hst⟩ := List.forall_mem_cons.mp hst
  have hnn : ¬ Int32.ofInt n < 0 := fun q => by
    have := (kn_lt hv0 kn_0).mp q
    omega
  refine va_newaK hC.1 hC.2.1 (atype := .short) (hC.2.2.2.2.2.2.1 _ kAw_short) rfl hd rfl hnn (kn_clamp hv0) (by show n.toNat * 2 ≤ 536870912; omega) (by omega) (by omega) rfl fun H1 cA e1 z1 o1 hAr hNm => ?_
  have hcA : cA = cT 2 := Option.some.inj (hNm.symm.trans (hC.2.2.2.2.2.2.2.2.1.2 2 _ rfl).2)
  subst hcA
  have hat : va_at D kCl (H.size, kce base ad cT (.inl (2, n.toNat, fun _ => 0))) H1 := e1
  have this := k H1 ls locs (hH.add (z := n.toNat) ⟨by omega, fun _ => kn_0⟩ z1 o1 hat) hL (List.forall_mem_cons.mpr ⟨trivial, hst⟩) (kS_add hS z1 o1) (by simp only [kadd]; omega) (by simp only [kadd]; omega)
  rw [ho] at this
  simp only [kadd, List.map_cons, kc, ← hH.1] at this
  rw [show h.1 + 1 - n0 = h.1 - n0 + 1 by omega, show h.2.1 + n.toNat - m0 = h.2.1 - m0 + n.toNat by omega] at this
  exact this
theorem kz_newarray_long {n : Int} (hC : kCx p s mid args meth cc c base ad cT D sc) (hd : decode (kaq c).2.1 (kofs c pc) = .ok (.newarray .long, 2)) (ho : kofs c (pc + 1) = kofs c pc + 2) (h0 : 0 ≤ n) (h1 : n ≤ 1000000) (hc1 : h.1 + 1 - n0 ≤ R.cells) (hs1 : h.2.1 + n.toNat - m0 ≤ R.slots)
    (k : kZ p l e R s mid args below meth cc c base ad cT D n0 m0 Q (pc + 1) L (.inr (.inr (.inl (some h.1))) :: st) (kadd h n.toNat (.inl (3, n.toNat, fun _ => 0)))) : kZ p l e R s mid args below meth cc c base ad cT D n0 m0 Q pc L (.inl n :: st) h := by
  intro H ls locs hH hL hst hS hn hm
  obtain ⟨hv0, hst⟩ := List.forall_mem_cons.mp hst
  have hnn : ¬ Int32.ofInt n < 0 := fun q => by
    have := (kn_lt hv0 kn_0).mp q
    omega
  refine va_newaK hC.1 hC.2.1 (atype := .long) (hC.2.2.2.2.2.2.1 _ kAw_long) rfl hd rfl hnn (kn_clamp hv0) (by show n.toNat * 8 ≤ 536870912; omega) (by omega) (by omega) rfl fun H1 cA e1 z1 o1 hAr hNm => ?_
  have hcA : cA = cT 3 := Option.some.inj (hNm.symm.trans (hC.2.2.2.2.2.2.2.2.1.2 3 _ rfl).2)
  subst hcA
  have hat : va_at D kCl (H.size, kce base ad cT (.inl (3, n.toNat, fun _ => 0))) H1 := e1
  have this := k H1 ls locs (hH.add (z := n.toNat) ⟨by omega, fun _ => kn_r0⟩ z1 o1 hat) hL (List.forall_mem_cons.mpr ⟨trivial, hst⟩) (kS_add hS z1 o1) (by simp only [kadd]; omega) (by simp only [kadd]; omega)
  rw [ho] at this
  simp only [kadd, List.map_cons, kc, ← hH.1] at this
  rw [show h.1 + 1 - n0 = h.1 - n0 + 1 by omega, show h.2.1 + n.toNat - m0 = h.2.1 - m0 + n.toNat by omega] at this
  exact this
theorem kz_newarray_boolean {n : Int} (hC : kCx p s mid args meth cc c base ad cT D sc) (hd : decode (kaq c).2.1 (kofs c pc) = .ok (.newarray .boolean, 2)) (ho : kofs c (pc + 1) = kofs c pc + 2) (h0 : 0 ≤ n) (h1 : n ≤ 1000000) (hc1 : h.1 + 1 - n0 ≤ R.cells) (hs1 : h.2.1 + n.toNat - m0 ≤ R.slots)
    (k : kZ p l e R s mid args below meth cc c base ad cT D n0 m0 Q (pc + 1) L (.inr (.inr (.inl (some h.1))) :: st) (kadd h n.toNat (.inl (4, n.toNat, fun _ => 0)))) : kZ p l e R s mid args below meth cc c base ad cT D n0 m0 Q pc L (.inl n :: st) h := by
  intro H ls locs hH hL hst hS hn hm
  obtain ⟨hv0, hst⟩ := List.forall_mem_cons.mp hst
  have hnn : ¬ Int32.ofInt n < 0 := fun q => by
    have := (kn_lt hv0 kn_0).mp q
    omega
  refine va_newaK hC.1 hC.2.1 (atype := .boolean) (hC.2.2.2.2.2.2.1 _ kAw_boolean) rfl hd rfl hnn (kn_clamp hv0) (by show n.toNat * 1 ≤ 536870912; omega) (by omega) (by omega) rfl fun H1 cA e1 z1 o1 hAr hNm => ?_
  have hcA : cA = cT 4 := Option.some.inj (hNm.symm.trans (hC.2.2.2.2.2.2.2.2.1.2 4 _ rfl).2)
  subst hcA
  have hat : va_at D kCl (H.size, kce base ad cT (.inl (4, n.toNat, fun _ => 0))) H1 := e1
  have this := k H1 ls locs (hH.add (z := n.toNat) ⟨by omega, fun _ => kn_0⟩ z1 o1 hat) hL (List.forall_mem_cons.mpr ⟨trivial, hst⟩) (kS_add hS z1 o1) (by simp only [kadd]; omega) (by simp only [kadd]; omega)
  rw [ho] at this
  simp only [kadd, List.map_cons, kc, ← hH.1] at this
  rw [show h.1 + 1 - n0 = h.1 - n0 + 1 by omega, show h.2.1 + n.toNat - m0 = h.2.1 - m0 + n.toNat by omega] at this
  exact this
theorem kz_anewarray {n : Int} {i ci : Nat} (hC : kCx p s mid args meth cc c base ad cT D sc) (hd : decode (kaq c).2.1 (kofs c pc) = .ok (.anewarray i, 3)) (ho : kofs c (pc + 1) = kofs c pc + 3) (hci : ci = 4 ∨ ci = 7) (hw : Cond.classLink (kon (kaq c).2.2.2.2) i (kcq ci).1 ∈ kG) (h0 : 0 ≤ n) (h1 : n ≤ 1000000) (hc1 : h.1 + 1 - n0 ≤ R.cells) (hs1 : h.2.1 + n.toNat - m0 ≤ R.slots)
    (k : kZ p l e R s mid args below meth cc c base ad cT D n0 m0 Q (pc + 1) L (.inr (.inr (.inl (some h.1))) :: st) (kadd h n.toNat (.inr (.inl (ci, n.toNat, fun _ => none))))) : kZ p l e R s mid args below meth cc c base ad cT D n0 m0 Q pc L (.inl n :: st) h := by
  intro H ls locs hH hL hst hS hn hm
  obtain ⟨hv0, hst⟩ := List.forall_mem_cons.mp hst
  have hnn : ¬ Int32.ofInt n < 0 := fun q => by
    have := (kn_lt hv0 kn_0).mp q
    omega
  have hK := hC.2.2.2.2.2.2.2.2.1
  have hov : va_AO (kcq ci).1 s := by
    rcases hci with rfl | rfl
    · exact hC.2.2.2.2.2.2.2.2.2.2.1
    · exact hC.2.2.2.2.2.2.2.2.2.2.2.1
  have hRA : s.vm.findClass ("[" ++ (FieldType.object (kcq ci).1).toString) = some (cT (10 + ci)) := by
    rcases hci with rfl | rfl
    · obtain ⟨kA, comp, -, -, -, q⟩ := (hK.2 5 _ rfl).2
      exact q
    · obtain ⟨kA, comp, -, -, -, q⟩ := (hK.2 6 _ rfl).2
      exact q
  have hcl := kn_clamp hv0
  refine W.anew hC.1 hC.2.1 hC.2.2.2.2.2.1 (hC.2.2.2.2.2.2.1 _ hw) (va_AO.use hov) rfl hd rfl hnn (by rw [hcl]; omega) (by omega) (by rw [hcl]; omega) fun cA kA comp f1 f2 f3 f4 => ?_
  obtain rfl : cA = cT (10 + ci) := Option.some.inj (f1.symm.trans hRA)
  rw [hcl]
  generalize hH1 : H.push ({ cls := cT (10 + ci), slots := Array.replicate n.toNat .null, vm := .none } : Cell) = H1
  have z1 : H1.size = H.size + 1 := by rw [← hH1, Array.size_push]
  have e1 : H1[H.size]? = some (arrV (cT (10 + ci)) n.toNat (fun _ => .null)) := by rw [← hH1, Array.getElem?_push_size, ← arrV_new]
  have o1 : ∀ q : Nat, q < H.size → H1[q]? = H[q]? := fun q hq => by rw [← hH1, Array.getElem?_push, if_neg (Nat.ne_of_lt hq)]
  have hat : va_at D kCl (H.size, kce base ad cT (.inr (.inl (ci, n.toNat, fun _ => none)))) H1 := e1
  have this := k H1 ls locs (hH.add (z := n.toNat) (show n.toNat ≤ 1000000 by omega) z1 o1 hat) hL (List.forall_mem_cons.mpr ⟨trivial, hst⟩) (kS_add hS z1 o1) (by simp only [kadd]; omega) (by simp only [kadd]; omega)
  rw [ho] at this
  simp only [kadd, List.map_cons, kc, ← hH.1] at this
  rw [show h.1 + 1 - n0 = h.1 - n0 + 1 by omega, show h.2.1 + n.toNat - m0 = h.2.1 - m0 + n.toNat by omega] at this
  exact this
theorem kz_new {i ci : Nat} (hC : kCx p s mid args meth cc c base ad cT D sc) (hd : decode (kaq c).2.1 (kofs c pc) = .ok (.new i, 3)) (ho : kofs c (pc + 1) = kofs c pc + 3) (hci : ci < 12) (hw : Cond.classLink (kon (kaq c).2.2.2.2) i (kcq ci).1 ∈ kG) (hc1 : h.1 + 1 - n0 ≤ R.cells) (hs1 : h.2.1 + (kfk ci).length - m0 ≤ R.slots)
    (k : kZ p l e R s mid args below meth cc c base ad cT D n0 m0 Q (pc + 1) L (.inr (.inr (.inl (some h.1))) :: st) (kadd h (kfk ci).length (.inr (.inr (ci, (kfk ci).map kdef0))))) : kZ p l e R s mid args below meth cc c base ad cT D n0 m0 Q pc L st h := by
  intro H ls locs hH hL hst hS hn hm
  obtain ⟨c1, c2, c3, c4, c5, clen, ty, c6, c7⟩ := kCa_ok ci hci
  have hK := hC.2.2.2.2.2.2.2.2.1
  have hts := hC.2.2.2.2.2.2.1
  have hKn := hK.1 ci _ c1
  refine W.newcK hC.1 hC.2.1 hC.2.2.2.2.2.1 (hts _ hw) (hts _ c3) (hts _ c4) rfl hd (by omega) (by rw [clen] at hs1; omega) hKn.2.1 rfl fun H1 kC hkC e1 z1 o1 => ?_
  have hat : va_at D kCl (H.size, kce base ad cT (.inr (.inr (ci, (kfk ci).map kdef0)))) H1 := by
    refine ⟨_, c1, (u_born ty hts c2 hKn hkC e1 c6).to (fun j hj => ?_)⟩
    rw [kdef_ok (base := base) (ad := ad) (c7 j hj)]
    have hj2 : j < (kfk ci).length := by rw [clen]; exact hj
    simp [vp_V, List.getD_eq_getElem?_getD, hj2]
  have hok : kEOK (.inr (.inr (ci, (kfk ci).map kdef0))) := fun v hv => by
    obtain ⟨t, -, rfl⟩ := List.mem_map.mp hv
    unfold kdef0
    split <;> first | trivial | (constructor <;> decide)
  have this := k H1 ls locs (hH.add (z := (kfk ci).length) hok z1 o1 hat) hL (List.forall_mem_cons.mpr ⟨trivial, hst⟩) (kS_add hS z1 o1) (by simp only [kadd]; omega) (by simp only [kadd]; omega)
  rw [ho] at this
  simp only [kadd, List.map_cons, kc, ← hH.1] at this
  rw [show h.1 + 1 - n0 = h.1 - n0 + 1 by omega, show h.2.1 + (kfk ci).length - m0 = h.2.1 - m0 + (kcq ci).2.2 by rw [← clen]; omega] at this
  exact this
theorem kn_wts (st : List kV) : ((st.map (kc base ad)).map (fun v => v.category)).sum = kwts st := by
  unfold kwts
  rw [List.map_map]
  congr 1
  apply List.map_congr_left
  intro v _
  exact kn_cat v
theorem kz_objinit {i a : Nat} (hC : kCx p s mid args meth cc c base ad cT D sc) (hd : decode (kaq c).2.1 (kofs c pc) = .ok (.invokespecial i, 3)) (ho : kofs c (pc + 1) = kofs c pc + 3) (hw : Cond.methodLink (kon (kaq c).2.2.2.2) i Lib.objectInit ∈ kG) (hwi : Cond.instanceMethod Lib.objectInit ∈ kG) (hwc : Cond.code Lib.objectInit ⟨#[0xb1]⟩ 1 none ∈ kG) (hf : 1 ≤ R.frames) (hl : 80 ≤ R.locals) (hwt : kwts st ≤ 8)
    (k : kZ p l e R s mid args below meth cc c base ad cT D n0 m0 Q (pc + 1) L st h) : kZ p l e R s mid args below meth cc c base ad cT D n0 m0 Q pc L (.inr (.inr (.inl (some a))) :: st) h := by
  intro H ls locs hH hL hst hS hn hm
  obtain ⟨-, hst⟩ := List.forall_mem_cons.mp hst
  have this := k H ls locs hH hL hst hS hn hm
  rw [ho] at this
  have hts := hC.2.2.2.2.2.2.1
  refine W.objInit hC.1 hC.2.1 hC.2.2.2.2.2.1 (hts _ hw) (hts _ hwi) (hts _ hwc) rfl ?_ (a := base + a) (rest := st.map (kc base ad)) rfl hd hf ?_ this
  · show ls.size = cc.maxLocals
    rw [hL.2.2.1, hC.2.2.1]
  · rw [kn_wts]
    show 2 * 0 + _ + 12 ≤ _
    omega
end KS
