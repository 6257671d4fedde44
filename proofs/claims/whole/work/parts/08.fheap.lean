section KS
variable {p : Program} {l : Launch} {e : Env} {R : Room} {s : State} {mid : MethodId} {args : Array Value} {below : List Frame} {meth : Method} {cc : Code} {c base : Nat} {ad : Nat → Nat} {cT : Nat → ClassId} {D : va_G} {sc : List Int} {n0 m0 : Nat} {Q : State → Prop} {pc : Nat} {L : kLs} {st : List kV} {h : kH}

theorem kz_istore {i : Nat} {x : Int} (hC : kCx p s mid args meth cc c base ad cT D sc) (hd : decode (kaq c).2.1 (kofs c pc) = .ok (.istore i, 2)) (ho : kofs c (pc + 1) = kofs c pc + 2) (hi : i < L.length) (k : kZ p l e R s mid args below meth cc c base ad cT D n0 m0 Q (pc + 1) (kst1 L i (.inl x)) st h) : kZ p l e R s mid args below meth cc c base ad cT D n0 m0 Q pc L (.inl x :: st) h := by
  intro H ls locs hH hL hst hS hn hm
  obtain ⟨hv0, hst⟩ := List.forall_mem_cons.mp hst
  rw [hL.1] at hi
  refine lv_istore hC.1 hC.2.1 hd hL.has hi rfl (fun ls' hl' => ?_)
  have this := k H ls' locs hH (hL.st1 hv0 hi hl') hst hS hn hm
  rw [ho] at this
  exact this
theorem kz_istore_n {i4 : Fin 4} {x : Int} (hC : kCx p s mid args meth cc c base ad cT D sc) (hd : decode (kaq c).2.1 (kofs c pc) = .ok (.istore_n i4, 1)) (ho : kofs c (pc + 1) = kofs c pc + 1) (hi : i4.val < L.length) (k : kZ p l e R s mid args below meth cc c base ad cT D n0 m0 Q (pc + 1) (kst1 L i4.val (.inl x)) st h) : kZ p l e R s mid args below meth cc c base ad cT D n0 m0 Q pc L (.inl x :: st) h := by
  intro H ls locs hH hL hst hS hn hm
  obtain ⟨hv0, hst⟩ := List.forall_mem_cons.mp hst
  rw [hL.1] at hi
  refine lv_istore_n hC.1 hC.2.1 hd rfl hL.has hi rfl (fun ls' hl' => ?_)
  have this := k H ls' locs hH (hL.st1 hv0 hi hl') hst hS hn hm
  rw [ho] at this
  exact this
theorem kz_lstore {i : Nat} {x : Int} (hC : kCx p s mid args meth cc c base ad cT D sc) (hd : decode (kaq c).2.1 (kofs c pc) = .ok (.lstore i, 2)) (ho : kofs c (pc + 1) = kofs c pc + 2) (hi : i + 1 < L.length) (k : kZ p l e R s mid args below meth cc c base ad cT D n0 m0 Q (pc + 1) (kst2 L i (.inr (.inl x))) st h) : kZ p l e R s mid args below meth cc c base ad cT D n0 m0 Q pc L (.inr (.inl x) :: st) h := by
  intro H ls locs hH hL hst hS hn hm
  obtain ⟨hv0, hst⟩ := List.forall_mem_cons.mp hst
  rw [hL.1] at hi
  refine lv_lstore hC.1 hC.2.1 hd hL.has hi rfl (fun ls' hl' => ?_)
  have this := k H ls' locs hH (hL.st2 hv0 hi hl') hst hS hn hm
  rw [ho] at this
  exact this
theorem kz_lstore_n {i4 : Fin 4} {x : Int} (hC : kCx p s mid args meth cc c base ad cT D sc) (hd : decode (kaq c).2.1 (kofs c pc) = .ok (.lstore_n i4, 1)) (ho : kofs c (pc + 1) = kofs c pc + 1) (hi : i4.val + 1 < L.length) (k : kZ p l e R s mid args below meth cc c base ad cT D n0 m0 Q (pc + 1) (kst2 L i4.val (.inr (.inl x))) st h) : kZ p l e R s mid args below meth cc c base ad cT D n0 m0 Q pc L (.inr (.inl x) :: st) h := by
  intro H ls locs hH hL hst hS hn hm
  obtain ⟨hv0, hst⟩ := List.forall_mem_cons.mp hst
  rw [hL.1] at hi
  refine lv_lstore_n hC.1 hC.2.1 hd rfl hL.has hi rfl (fun ls' hl' => ?_)
  have this := k H ls' locs hH (hL.st2 hv0 hi hl') hst hS hn hm
  rw [ho] at this
  exact this
theorem kz_astore {i : Nat} {x : Option Nat ⊕ Nat} (hC : kCx p s mid args meth cc c base ad cT D sc) (hd : decode (kaq c).2.1 (kofs c pc) = .ok (.astore i, 2)) (ho : kofs c (pc + 1) = kofs c pc + 2) (hi : i < L.length) (k : kZ p l e R s mid args below meth cc c base ad cT D n0 m0 Q (pc + 1) (kst1 L i (.inr (.inr x))) st h) : kZ p l e R s mid args below meth cc c base ad cT D n0 m0 Q pc L (.inr (.inr x) :: st) h := by
  intro H ls locs hH hL hst hS hn hm
  obtain ⟨hv0, hst2⟩ := List.forall_mem_cons.mp hst
  clear hst
  rw [hL.1] at hi
  rcases x with x | x
  · rcases x with _ | x
    · refine lv_astoreN hC.1 hC.2.1 hd hL.has hi rfl (fun ls' hl' => ?_)
      have this := k H ls' locs hH (hL.st1 hv0 hi hl') hst2 hS hn hm
      rw [ho] at this
      exact this
    · refine lv_astore hC.1 hC.2.1 hd hL.has hi rfl (fun ls' hl' => ?_)
      have this := k H ls' locs hH (hL.st1 hv0 hi hl') hst2 hS hn hm
      rw [ho] at this
      exact this
  · refine lv_astore hC.1 hC.2.1 hd hL.has hi rfl (fun ls' hl' => ?_)
    have this := k H ls' locs hH (hL.st1 hv0 hi hl') hst2 hS hn hm
    rw [ho] at this
    exact this
theorem kz_astore_n {i4 : Fin 4} {x : Option Nat ⊕ Nat} (hC : kCx p s mid args meth cc c base ad cT D sc) (hd : decode (kaq c).2.1 (kofs c pc) = .ok (.astore_n i4, 1)) (ho : kofs c (pc + 1) = kofs c pc + 1) (hi : i4.val < L.length) (k : kZ p l e R s mid args below meth cc c base ad cT D n0 m0 Q (pc + 1) (kst1 L i4.val (.inr (.inr x))) st h) : kZ p l e R s mid args below meth cc c base ad cT D n0 m0 Q pc L (.inr (.inr x) :: st) h := by
  intro H ls locs hH hL hst hS hn hm
  obtain ⟨hv0, hst2⟩ := List.forall_mem_cons.mp hst
  clear hst
  rw [hL.1] at hi
  rcases x with x | x
  · rcases x with _ | x
    · refine lv_astore_nN hC.1 hC.2.1 hd rfl hL.has hi rfl (fun ls' hl' => ?_)
      have this := k H ls' locs hH (hL.st1 hv0 hi hl') hst2 hS hn hm
      rw [ho] at this
      exact this
    · refine lv_astore_n hC.1 hC.2.1 hd rfl hL.has hi rfl (fun ls' hl' => ?_)
      have this := k H ls' locs hH (hL.st1 hv0 hi hl') hst2 hS hn hm
      rw [ho] at this
      exact this
  · refine lv_astore_n hC.1 hC.2.1 hd rfl hL.has hi rfl (fun ls' hl' => ?_)
    have this := k H ls' locs hH (hL.st1 hv0 hi hl') hst2 hS hn hm
    rw [ho] at this
    exact this
theorem kz_iinc {i : Nat} {n x : Int} (hC : kCx p s mid args meth cc c base ad cT D sc) (hd : decode (kaq c).2.1 (kofs c pc) = .ok (.iinc i n, 3)) (ho : kofs c (pc + 1) = kofs c pc + 3) (hr : -128 ≤ n ∧ n ≤ 127) (hx : L[i]? = some (some (.inl x))) (k : kZ p l e R s mid args below meth cc c base ad cT D n0 m0 Q (pc + 1) (kst1 L i (.inl (wI (x + n)))) st h) : kZ p l e R s mid args below meth cc c base ad cT D n0 m0 Q pc L st h := by
  intro H ls locs hH hL hst hS hn hm
  have hi : i < (kaq c).2.2.1 := by rw [← hL.1]; exact (List.getElem?_eq_some_iff.mp hx).1
  have hl2 : lv_has ls (kaq c).2.2.1 ((i, Value.int (Int32.ofInt x)) :: klv base ad L) := ⟨hL.has.1, hL.has.2.1, fun q hq => by
    rcases List.mem_cons.mp hq with rfl | hq
    · exact hL.2.2.2.2 i _ hx
    · exact hL.has.2.2 q hq⟩
  refine lv_iinc (k := 0) hC.1 hC.2.1 hd hl2 rfl (kn_add x n) hi rfl (fun ls' hl' => ?_)
  have hl3 : lv_has ls' (kaq c).2.2.1 ((i, kc base ad (.inl (wI (x + n)))) :: (klv base ad L).filter (fun q => !(q.1 == i) && !(q.1 + 1 == i && q.2.category == 2))) := ⟨hl'.1, hl'.2.1, fun q hq => by
    rcases List.mem_cons.mp hq with rfl | hq
    · exact hl'.2.2 _ List.mem_cons_self
    · exact hl'.2.2 q (List.mem_cons_of_mem _ (List.mem_filter.mpr ⟨List.mem_cons_of_mem _ (List.mem_filter.mp hq).1, (List.mem_filter.mp hq).2⟩))⟩
  have this := k H ls' locs hH (hL.st1 (kn_wI _) hi hl3) hst hS hn hm
  rw [ho] at this
  exact this
theorem kP1 {base : Nat} {ad : Nat → Nat} {cT : Nat → ClassId} {D : va_G} {h : kH} {H : Heap} {a : Nat} {e : kE} (hH : kHR base ad cT D h H) (ha : h.2.2 a = some e) : va_P D kCl [(base + a, kce base ad cT e)] H := by
  intro k q hq
  have hk : k = 0 := by
    have := (List.getElem?_eq_some_iff.mp hq).1
    simp at this
    exact this
  subst hk
  cases hq
  exact (hH.2 a e ha).2.2
theorem kz_getfield {a i q : Nat} {fs : List kV} {v : kV} (hC : kCx p s mid args meth cc c base ad cT D sc) (hd : decode (kaq c).2.1 (kofs c pc) = .ok (.getfield i, 3)) (ho : kofs c (pc + 1) = kofs c pc + 3) (hq : q / 100 < 12) (hN : q % 100 < (kcq (q / 100)).2.2) (hw : Cond.fieldLink (kon (kaq c).2.2.2.2) i (kTf q).1 (kTf q).2.1 (kTf q).2.2.1 ∈ kG) (ha : h.2.2 a = some (.inr (.inr (q / 100, fs)))) (hv : fs[q % 100]? = some v)
    (k : kZ p l e R s mid args below meth cc c base ad cT D n0 m0 Q (pc + 1) L (v :: st) h) : kZ p l e R s mid args below meth cc c base ad cT D n0 m0 Q pc L (.inr (.inr (.inl (some a))) :: st) h := by
  intro H ls locs hH hL hst hS hn hm
  obtain ⟨-, hst⟩ := List.forall_mem_cons.mp hst
  obtain ⟨c1, c2, -⟩ := kCa_ok _ hq
  have hok : kEOK (.inr (.inr (q / 100, fs))) := (hH.2 a _ ha).2.1
  have this := k H ls locs hH hL (List.forall_mem_cons.mpr ⟨hok v (List.mem_of_getElem? hv), hst⟩) hS hn hm
  rw [ho] at this
  exact va_get (ref := (kTf q).1) hC.1 hC.2.1 hC.2.2.2.2.2.2.1 c2 hC.2.2.2.2.2.1 hC.2.2.2.2.2.2.2.2.1 (kP1 hH ha) 0 rfl c1 (q % 100) hN (hC.2.2.2.2.2.2.1 _ hw) (fun x hx => hx) (by rw [List.getElem?_map, hv]; rfl) hd this
theorem kz_putfield {a i q : Nat} {fs : List kV} {v : kV} (hC : kCx p s mid args meth cc c base ad cT D sc) (hd : decode (kaq c).2.1 (kofs c pc) = .ok (.putfield i, 3)) (ho : kofs c (pc + 1) = kofs c pc + 3) (hq : q / 100 < 12) (hN : q % 100 < (kcq (q / 100)).2.2) (hw : Cond.fieldLink (kon (kaq c).2.2.2.2) i (kTf q).1 (kTf q).2.1 (kTf q).2.2.1 ∈ kG) (hfin : (kTf q).2.2.2 = true → (kaq c).1.name = "<init>" ∧ (kTf q).1 = kon (kaq c).2.2.2.2) (ha : h.2.2 a = some (.inr (.inr (q / 100, fs)))) (hl : q % 100 < fs.length) (hf : kfit ((kfk (q / 100)).getD (q % 100) 9) v = true)
    (k : kZ p l e R s mid args below meth cc c base ad cT D n0 m0 Q (pc + 1) L st (kput h a (.inr (.inr (q / 100, fs.set (q % 100) v))))) : kZ p l e R s mid args below meth cc c base ad cT D n0 m0 Q pc L (v :: .inr (.inr (.inl (some a))) :: st) h := by
  intro H ls locs hH hL hst hS hn hm
  obtain ⟨hv0, hst⟩ := List.forall_mem_cons.mp hst
  obtain ⟨-, hst⟩ := List.forall_mem_cons.mp hst
  obtain ⟨c1, c2, -, -, c5, -, ty, c6, c7⟩ := kCa_ok _ hq
  have hK := hC.2.2.2.2.2.2.2.2.1
  have hts := hC.2.2.2.2.2.2.1
  have hown := hC.2.2.2.2.2.1
  have hap := va_apart (own := kon (kaq c).2.2.2.2) hts c2 ty c6 c5 hK c1
  obtain ⟨r, h1, cell, q1, q2, q3, q4⟩ := (hH.2 a _ ha).2.2
  have hr : r = kcq (q / 100) := Option.some.inj (h1.symm.trans c1)
  subst hr
  obtain ⟨hSl, hfc, kC, hkC, hkind⟩ := hK.1 (q / 100) _ c1
  obtain ⟨cf, kf, fi, f, hi, hsl⟩ := hSl (q % 100) hN
  have hst2 := (u_facts hfc hkC (u_lays hts c2 hN) hi).1
  obtain ⟨hnar, hfits⟩ := kfit_ok (base := base) (ad := ad) (c7 _ hN) hf
  have hok : kEOK (.inr (.inr (q / 100, fs))) := (hH.2 a _ ha).2.1
  have hok2 : kEOK (.inr (.inr (q / 100, fs.set (q % 100) v))) := fun w hwm => by
    rcases List.mem_or_eq_of_mem_set hwm with h | h
    · exact hok w h
    · rw [h]; exact hv0
  have fin : ∀ (H' : Heap), H'[base + a]? = some (cell.setSlot f.slot (kc base ad v)) → H'.size = H.size → (∀ z, z ≠ base + a → H'[z]? = H[z]?) → W p l e R s mid args below meth cc H' (locs ++ [⟨base + a, f.slot⟩]) (h.1 - n0) (h.2.1 - m0) Q (F0 mid (kofs c pc + 3) ls (st.map (kc base ad))) := by
    intro H' e1 e2 e3
    rw [hsl] at e1 ⊢
    have hat : va_at D kCl (base + a, kce base ad cT (.inr (.inr (q / 100, fs.set (q % 100) v)))) H' := by
      refine ⟨_, c1, t_OB.to (V := updV (vp_V (fs.map (kc base ad))) (q % 100) (kc base ad v)) ⟨_, e1, q2, q3, t_set q4 hap hN _⟩ (fun j _ => ?_)⟩
      rw [vp_updV_set (by rw [List.length_map]; exact hl) _ j, List.map_set]
    have this := k H' ls _ (hH.put ha hok2 e2 e3 hat) hL hst (kS_put (k := D.2 (q / 100) (q % 100)) hS e2 e3) hn hm
    rw [ho] at this
    exact this
  by_cases hfi : ((kcq (q / 100)).2.1 (q % 100)).2.2.2 = true
  · obtain ⟨f1, f2⟩ := hfin hfi
    have hlay := hts _ (c2 _ (u_in_lay hN))
    unfold u_lay at hlay
    rw [if_pos hfi] at hlay
    have hcf : mid.cls = cf := by
      obtain ⟨_, _, c', _, _, _, -, -, hf', -, -, -, hown2, -⟩ := Cond.laysFinal_spec hlay
      have e1 : c' = cf := by have := hi.symm.trans hf'; simp at this; exact this.1.symm
      rw [← e1]
      have f3 : ((kcq (q / 100)).2.1 (q % 100)).1 = kon (kaq c).2.2.2.2 := f2
      rw [f3] at hown2
      exact Option.some.inj (hown.symm.trans hown2)
    have h6 := u_fits hfc hkC hkind (Or.inr hlay) hi (c6 _ hN) hnar hfits
    exact W.putFinK hC.1 hC.2.1 hown (hts _ hw) hi hst2 hcf (hC.2.2.2.2.2.2.2.1.trans f1) (by rw [q2]; exact h6) q1 q3 (by rw [hsl]; exact k2_hasslot (q4 _ hN)) rfl rfl hd fin
  · have hlay := hts _ (c2 _ (u_in_lay hN))
    unfold u_lay at hlay
    rw [if_neg hfi] at hlay
    have h6 := u_store hfc hkC hkind hlay hi (c6 _ hN) hnar hfits
    exact W.putK hC.1 hC.2.1 (f := f) ⟨hown, hts _ hw, ⟨_, _, _, hi⟩, hst2⟩ (by rw [q2]; exact h6) q1 q3 (by rw [hsl]; exact k2_hasslot (q4 _ hN)) rfl rfl hd fin
theorem kz_iaload {a n : Nat} {f : Nat → Int} {i : Int} (hC : kCx p s mid args meth cc c base ad cT D sc) (hd : decode (kaq c).2.1 (kofs c pc) = .ok (.iaload, 1)) (ho : kofs c (pc + 1) = kofs c pc + 1) (ha : h.2.2 a = some (.inl (0, n, f))) (h0 : 0 ≤ i) (h1 : i < n)
    (k : kZ p l e R s mid args below meth cc c base ad cT D n0 m0 Q (pc + 1) L (.inl (f i.toNat) :: st) h) : kZ p l e R s mid args below meth cc c base ad cT D n0 m0 Q pc L (.inl i :: .inr (.inr (.inl (some a))) :: st) h := by
  intro H ls locs hH hL hst hS hn hm
  obtain ⟨hv0, hst⟩ := List.forall_mem_cons.mp hst
  obtain ⟨-, hst⟩ := List.forall_mem_cons.mp hst
  have hok : kEOK (.inl (0, n, f)) := (hH.2 a _ ha).2.1
  have this := k H ls locs hH hL (List.forall_mem_cons.mpr ⟨hok.2 _, hst⟩) hS hn hm
  rw [ho] at this
  simp only [List.map_cons, kc] at this ⊢
  rw [← kn_clamp hv0] at this
  exact va_iald hC.1 hC.2.1 hC.2.2.2.2.2.2.2.2.1 (kP1 hH ha) 0 0 rfl rfl (kn_in hv0 h0 h1) hd this
theorem kz_baload1 {a n : Nat} {f : Nat → Int} {i : Int} (hC : kCx p s mid args meth cc c base ad cT D sc) (hd : decode (kaq c).2.1 (kofs c pc) = .ok (.baload, 1)) (ho : kofs c (pc + 1) = kofs c pc + 1) (ha : h.2.2 a = some (.inl (1, n, f))) (h0 : 0 ≤ i) (h1 : i < n)
    (k : kZ p l e R s mid args below meth cc c base ad cT D n0 m0 Q (pc + 1) L (.inl (f i.toNat) :: st) h) : kZ p l e R s mid args below meth cc c base ad cT D n0 m0 Q pc L (.inl i :: .inr (.inr (.inl (some a))) :: st) h := by
  intro H ls locs hH hL hst hS hn hm
  obtain ⟨hv0, hst⟩ := List.forall_mem_cons.mp hst
  obtain ⟨-, hst⟩ := List.forall_mem_cons.mp hst
  have hok : kEOK (.inl (1, n, f)) := (hH.2 a _ ha).2.1
  have this := k H ls locs hH hL (List.forall_mem_cons.mpr ⟨hok.2 _, hst⟩) hS hn hm
  rw [ho] at this
  simp only [List.map_cons, kc] at this ⊢
  rw [← kn_clamp hv0] at this
  exact va_bald hC.1 hC.2.1 hC.2.2.2.2.2.2.2.2.1 (kP1 hH ha) 0 1 rfl rfl (kn_in hv0 h0 h1) hd this
theorem kz_baload4 {a n : Nat} {f : Nat → Int} {i : Int} (hC : kCx p s mid args meth cc c base ad cT D sc) (hd : decode (kaq c).2.1 (kofs c pc) = .ok (.baload, 1)) (ho : kofs c (pc + 1) = kofs c pc + 1) (ha : h.2.2 a = some (.inl (4, n, f))) (h0 : 0 ≤ i) (h1 : i < n)
    (k : kZ p l e R s mid args below meth cc c base ad cT D n0 m0 Q (pc + 1) L (.inl (f i.toNat) :: st) h) : kZ p l e R s mid args below meth cc c base ad cT D n0 m0 Q pc L (.inl i :: .inr (.inr (.inl (some a))) :: st) h := by
  intro H ls locs hH hL hst hS hn hm
  obtain ⟨hv0, hst⟩ := List.forall_mem_cons.mp hst
  obtain ⟨-, hst⟩ := List.forall_mem_cons.mp hst
  have hok : kEOK (.inl (4, n, f)) := (hH.2 a _ ha).2.1
  have this := k H ls locs hH hL (List.forall_mem_cons.mpr ⟨hok.2 _, hst⟩) hS hn hm
  rw [ho] at this
  simp only [List.map_cons, kc] at this ⊢
  rw [← kn_clamp hv0] at this
  exact va_zald hC.1 hC.2.1 hC.2.2.2.2.2.2.2.2.1 (kP1 hH ha) 0 4 rfl rfl (kn_in hv0 h0 h1) hd this
theorem kz_saload {a n : Nat} {f : Nat → Int} {i : Int} (hC : kCx p s mid args meth cc c base ad cT D sc) (hd : decode (kaq c).2.1 (kofs c pc) = .ok (.saload, 1)) (ho : kofs c (pc + 1) = kofs c pc + 1) (ha : h.2.2 a = some (.inl (2, n, f))) (h0 : 0 ≤ i) (h1 : i < n)
    (k : kZ p l e R s mid args below meth cc c base ad cT D n0 m0 Q (pc + 1) L (.inl (f i.toNat) :: st) h) : kZ p l e R s mid args below meth cc c base ad cT D n0 m0 Q pc L (.inl i :: .inr (.inr (.inl (some a))) :: st) h := by
  intro H ls locs hH hL hst hS hn hm
  obtain ⟨hv0, hst⟩ := List.forall_mem_cons.mp hst
  obtain ⟨-, hst⟩ := List.forall_mem_cons.mp hst
  have hok : kEOK (.inl (2, n, f)) := (hH.2 a _ ha).2.1
  have this := k H ls locs hH hL (List.forall_mem_cons.mpr ⟨hok.2 _, hst⟩) hS hn hm
  rw [ho] at this
  simp only [List.map_cons, kc] at this ⊢
  rw [← kn_clamp hv0] at this
  exact va_sald hC.1 hC.2.1 hC.2.2.2.2.2.2.2.2.1 (kP1 hH ha) 0 2 rfl rfl (kn_in hv0 h0 h1) hd this
theorem kz_laload {a n : Nat} {f : Nat → Int} {i : Int} (hC : kCx p s mid args meth cc c base ad cT D sc) (hd : decode (kaq c).2.1 (kofs c pc) = .ok (.laload, 1)) (ho : kofs c (pc + 1) = kofs c pc + 1) (ha : h.2.2 a = some (.inl (3, n, f))) (h0 : 0 ≤ i) (h1 : i < n)
    (k : kZ p l e R s mid args below meth cc c base ad cT D n0 m0 Q (pc + 1) L (.inr (.inl (f i.toNat)) :: st) h) : kZ p l e R s mid args below meth cc c base ad cT D n0 m0 Q pc L (.inl i :: .inr (.inr (.inl (some a))) :: st) h := by
  intro H ls locs hH hL hst hS hn hm
  obtain ⟨hv0, hst⟩ := List.forall_mem_cons.mp hst
  obtain ⟨-, hst⟩ := List.forall_mem_cons.mp hst
  have hok : kEOK (.inl (3, n, f)) := (hH.2 a _ ha).2.1
  have this := k H ls locs hH hL (List.forall_mem_cons.mpr ⟨hok.2 _, hst⟩) hS hn hm
  rw [ho] at this
  simp only [List.map_cons, kc] at this ⊢
  rw [← kn_clamp hv0] at this
  exact va_lald hC.1 hC.2.1 hC.2.2.2.2.2.2.2.2.1 (kP1 hH ha) 0 3 rfl rfl (kn_in hv0 h0 h1) hd this
theorem kz_aaload {a n ci : Nat} {f : Nat → Option Nat} {i : Int} (hC : kCx p s mid args meth cc c base ad cT D sc) (hd : decode (kaq c).2.1 (kofs c pc) = .ok (.aaload, 1)) (ho : kofs c (pc + 1) = kofs c pc + 1) (hci : ci = 4 ∨ ci = 7) (ha : h.2.2 a = some (.inr (.inl (ci, n, f)))) (h0 : 0 ≤ i) (h1 : i < n)
    (k : kZ p l e R s mid args below meth cc c base ad cT D n0 m0 Q (pc + 1) L (.inr (.inr (.inl (f i.toNat))) :: st) h) : kZ p l e R s mid args below meth cc c base ad cT D n0 m0 Q pc L (.inl i :: .inr (.inr (.inl (some a))) :: st) h := by
  intro H ls locs hH hL hst hS hn hm
  obtain ⟨hv0, hst⟩ := List.forall_mem_cons.mp hst
  obtain ⟨-, hst⟩ := List.forall_mem_cons.mp hst
  have this := k H ls locs hH hL (List.forall_mem_cons.mpr ⟨trivial, hst⟩) hS hn hm
  rw [ho] at this
  have e1 : kc base ad (.inr (.inr (.inl (f i.toNat)))) = va_rf ((fun j => (f j).map (fun k => base + k)) (Int32.ofInt i).toNatClampNeg) := by
    rw [kn_clamp hv0]
    show _ = va_rf ((f i.toNat).map (fun k => base + k))
    cases f i.toNat <;> rfl
  rw [List.map_cons, e1] at this
  rcases hci with rfl | rfl
  · exact va_aldq (C := "KnotTown$Rule") hC.1 hC.2.1 hC.2.2.2.2.2.2.2.2.1 (kP1 hH ha) 0 5 rfl rfl (kn_in hv0 h0 h1) hd this
  · exact va_aldq (C := "KnotTown$Stand") hC.1 hC.2.1 hC.2.2.2.2.2.2.2.2.1 (kP1 hH ha) 0 6 rfl rfl (kn_in hv0 h0 h1) hd this
end KS
