section KS
variable {p : Program} {l : Launch} {e : Env} {R : Room} {s : State} {mid : MethodId} {args : Array Value} {below : List Frame} {meth : Method} {cc : Code} {c base : Nat} {ad : Nat → Nat} {cT : Nat → ClassId} {D : va_G} {sc : List Int} {n0 m0 : Nat} {Q : State → Prop} {pc : Nat} {L : kLs} {st : List kV} {h : kH}

theorem kz_iadd {a b : Int} (hC : kCx p s mid args meth cc c base ad cT D sc) (hd : decode (kaq c).2.1 (kofs c pc) = .ok (.iadd, 1)) (ho : kofs c (pc + 1) = kofs c pc + 1)
    (k : kZ p l e R s mid args below meth cc c base ad cT D n0 m0 Q (pc + 1) L (.inl (wI (a + b)) :: st) h) : kZ p l e R s mid args below meth cc c base ad cT D n0 m0 Q pc L (.inl b :: .inl a :: st) h := by
  intro H ls locs hH hL hst hS hn hm
  obtain ⟨hv0, hst⟩ := List.forall_mem_cons.mp hst
  obtain ⟨hv1, hst⟩ := List.forall_mem_cons.mp hst
  have this := k H ls locs hH hL (List.forall_mem_cons.mpr ⟨kn_wI _, hst⟩) hS hn hm
  rw [ho] at this
  simp only [List.map_cons, kc] at this ⊢
  rw [← kn_add] at this
  exact lv_iadd hC.1 hC.2.1 hd this
theorem kz_isub {a b : Int} (hC : kCx p s mid args meth cc c base ad cT D sc) (hd : decode (kaq c).2.1 (kofs c pc) = .ok (.isub, 1)) (ho : kofs c (pc + 1) = kofs c pc + 1)
    (k : kZ p l e R s mid args below meth cc c base ad cT D n0 m0 Q (pc + 1) L (.inl (wI (a - b)) :: st) h) : kZ p l e R s mid args below meth cc c base ad cT D n0 m0 Q pc L (.inl b :: .inl a :: st) h := by
  intro H ls locs hH hL hst hS hn hm
  obtain ⟨hv0, hst⟩ := List.forall_mem_cons.mp hst
  obtain ⟨hv1, hst⟩ := List.forall_mem_cons.mp hst
  have this := k H ls locs hH hL (List.forall_mem_cons.mpr ⟨kn_wI _, hst⟩) hS hn hm
  rw [ho] at this
  simp only [List.map_cons, kc] at this ⊢
  rw [← kn_sub] at this
  exact lv_isub hC.1 hC.2.1 hd this
theorem kz_imul {a b : Int} (hC : kCx p s mid args meth cc c base ad cT D sc) (hd : decode (kaq c).2.1 (kofs c pc) = .ok (.imul, 1)) (ho : kofs c (pc + 1) = kofs c pc + 1)
    (k : kZ p l e R s mid args below meth cc c base ad cT D n0 m0 Q (pc + 1) L (.inl (wI (a * b)) :: st) h) : kZ p l e R s mid args below meth cc c base ad cT D n0 m0 Q pc L (.inl b :: .inl a :: st) h := by
  intro H ls locs hH hL hst hS hn hm
  obtain ⟨hv0, hst⟩ := List.forall_mem_cons.mp hst
  obtain ⟨hv1, hst⟩ := List.forall_mem_cons.mp hst
  have this := k H ls locs hH hL (List.forall_mem_cons.mpr ⟨kn_wI _, hst⟩) hS hn hm
  rw [ho] at this
  simp only [List.map_cons, kc] at this ⊢
  rw [← kn_mul] at this
  exact lv_imul hC.1 hC.2.1 hd this
theorem kz_iand {a b : Int} (hC : kCx p s mid args meth cc c base ad cT D sc) (hd : decode (kaq c).2.1 (kofs c pc) = .ok (.iand, 1)) (ho : kofs c (pc + 1) = kofs c pc + 1)
    (k : kZ p l e R s mid args below meth cc c base ad cT D n0 m0 Q (pc + 1) L (.inl (kand a b) :: st) h) : kZ p l e R s mid args below meth cc c base ad cT D n0 m0 Q pc L (.inl b :: .inl a :: st) h := by
  intro H ls locs hH hL hst hS hn hm
  obtain ⟨hv0, hst⟩ := List.forall_mem_cons.mp hst
  obtain ⟨hv1, hst⟩ := List.forall_mem_cons.mp hst
  have this := k H ls locs hH hL (List.forall_mem_cons.mpr ⟨kn_r _, hst⟩) hS hn hm
  rw [ho] at this
  simp only [List.map_cons, kc, kand, Int32.ofInt_toInt] at this ⊢
  exact lv_iand hC.1 hC.2.1 hd this
theorem kz_ior {a b : Int} (hC : kCx p s mid args meth cc c base ad cT D sc) (hd : decode (kaq c).2.1 (kofs c pc) = .ok (.ior, 1)) (ho : kofs c (pc + 1) = kofs c pc + 1)
    (k : kZ p l e R s mid args below meth cc c base ad cT D n0 m0 Q (pc + 1) L (.inl (kor a b) :: st) h) : kZ p l e R s mid args below meth cc c base ad cT D n0 m0 Q pc L (.inl b :: .inl a :: st) h := by
  intro H ls locs hH hL hst hS hn hm
  obtain ⟨hv0, hst⟩ := List.forall_mem_cons.mp hst
  obtain ⟨hv1, hst⟩ := List.forall_mem_cons.mp hst
  have this := k H ls locs hH hL (List.forall_mem_cons.mpr ⟨kn_r _, hst⟩) hS hn hm
  rw [ho] at this
  simp only [List.map_cons, kc, kor, Int32.ofInt_toInt] at this ⊢
  exact lv_ior hC.1 hC.2.1 hd this
theorem kz_ixor {a b : Int} (hC : kCx p s mid args meth cc c base ad cT D sc) (hd : decode (kaq c).2.1 (kofs c pc) = .ok (.ixor, 1)) (ho : kofs c (pc + 1) = kofs c pc + 1)
    (k : kZ p l e R s mid args below meth cc c base ad cT D n0 m0 Q (pc + 1) L (.inl (kxor a b) :: st) h) : kZ p l e R s mid args below meth cc c base ad cT D n0 m0 Q pc L (.inl b :: .inl a :: st) h := by
  intro H ls locs hH hL hst hS hn hm
  obtain ⟨hv0, hst⟩ := List.forall_mem_cons.mp hst
  obtain ⟨hv1, hst⟩ := List.forall_mem_cons.mp hst
  have this := k H ls locs hH hL (List.forall_mem_cons.mpr ⟨kn_r _, hst⟩) hS hn hm
  rw [ho] at this
  simp only [List.map_cons, kc, kxor, Int32.ofInt_toInt] at this ⊢
  exact lv_ixor hC.1 hC.2.1 hd this
theorem kz_ishl {a b : Int} (hC : kCx p s mid args meth cc c base ad cT D sc) (hd : decode (kaq c).2.1 (kofs c pc) = .ok (.ishl, 1)) (ho : kofs c (pc + 1) = kofs c pc + 1)
    (k : kZ p l e R s mid args below meth cc c base ad cT D n0 m0 Q (pc + 1) L (.inl (kshl a b) :: st) h) : kZ p l e R s mid args below meth cc c base ad cT D n0 m0 Q pc L (.inl b :: .inl a :: st) h := by
  intro H ls locs hH hL hst hS hn hm
  obtain ⟨hv0, hst⟩ := List.forall_mem_cons.mp hst
  obtain ⟨hv1, hst⟩ := List.forall_mem_cons.mp hst
  have this := k H ls locs hH hL (List.forall_mem_cons.mpr ⟨kn_r _, hst⟩) hS hn hm
  rw [ho] at this
  simp only [List.map_cons, kc, kshl, Int32.ofInt_toInt] at this ⊢
  exact lv_ishl hC.1 hC.2.1 hd this
theorem kz_ishr {a b : Int} (hC : kCx p s mid args meth cc c base ad cT D sc) (hd : decode (kaq c).2.1 (kofs c pc) = .ok (.ishr, 1)) (ho : kofs c (pc + 1) = kofs c pc + 1)
    (k : kZ p l e R s mid args below meth cc c base ad cT D n0 m0 Q (pc + 1) L (.inl (kshr a b) :: st) h) : kZ p l e R s mid args below meth cc c base ad cT D n0 m0 Q pc L (.inl b :: .inl a :: st) h := by
  intro H ls locs hH hL hst hS hn hm
  obtain ⟨hv0, hst⟩ := List.forall_mem_cons.mp hst
  obtain ⟨hv1, hst⟩ := List.forall_mem_cons.mp hst
  have this := k H ls locs hH hL (List.forall_mem_cons.mpr ⟨kn_r _, hst⟩) hS hn hm
  rw [ho] at this
  simp only [List.map_cons, kc, kshr, Int32.ofInt_toInt] at this ⊢
  exact lv_ishr hC.1 hC.2.1 hd this
theorem kz_iushr {a b : Int} (hC : kCx p s mid args meth cc c base ad cT D sc) (hd : decode (kaq c).2.1 (kofs c pc) = .ok (.iushr, 1)) (ho : kofs c (pc + 1) = kofs c pc + 1)
    (k : kZ p l e R s mid args below meth cc c base ad cT D n0 m0 Q (pc + 1) L (.inl (kushr a b) :: st) h) : kZ p l e R s mid args below meth cc c base ad cT D n0 m0 Q pc L (.inl b :: .inl a :: st) h := by
  intro H ls locs hH hL hst hS hn hm
  obtain ⟨hv0, hst⟩ := List.forall_mem_cons.mp hst
  obtain ⟨hv1, hst⟩ := List.forall_mem_cons.mp hst
  have this := k H ls locs hH hL (List.forall_mem_cons.mpr ⟨kn_r _, hst⟩) hS hn hm
  rw [ho] at this
  simp only [List.map_cons, kc, kushr, Int32.ofInt_toInt] at this ⊢
  exact lv_iushr hC.1 hC.2.1 hd rfl this
theorem kn_ne0 {b : Int} (hb : kR32 b) (h : b ≠ 0) : ¬ Int32.ofInt b = 0 := fun q => h ((kn_eq hb kn_0).mp q)
theorem kn_r0 : kR64 0 := by constructor <;> decide
theorem kn_lne0 {b : Int} (hb : kR64 b) (h : b ≠ 0) : ¬ Int64.ofInt b = 0 := fun q => h ((kn_leq hb kn_r0).mp q)
theorem kz_idiv {a b : Int} (hC : kCx p s mid args meth cc c base ad cT D sc) (hd : decode (kaq c).2.1 (kofs c pc) = .ok (.idiv, 1)) (ho : kofs c (pc + 1) = kofs c pc + 1) (hb0 : b ≠ 0)
    (k : kZ p l e R s mid args below meth cc c base ad cT D n0 m0 Q (pc + 1) L (.inl (kdiv a b) :: st) h) : kZ p l e R s mid args below meth cc c base ad cT D n0 m0 Q pc L (.inl b :: .inl a :: st) h := by
  intro H ls locs hH hL hst hS hn hm
  obtain ⟨hv0, hst⟩ := List.forall_mem_cons.mp hst
  obtain ⟨hv1, hst⟩ := List.forall_mem_cons.mp hst
  have this := k H ls locs hH hL (List.forall_mem_cons.mpr ⟨kn_r _, hst⟩) hS hn hm
  rw [ho] at this
  simp only [List.map_cons, kc, kdiv, Int32.ofInt_toInt] at this ⊢
  exact lv_idiv hC.1 hC.2.1 hd (kn_ne0 hv0 hb0) this
theorem kz_irem {a b : Int} (hC : kCx p s mid args meth cc c base ad cT D sc) (hd : decode (kaq c).2.1 (kofs c pc) = .ok (.irem, 1)) (ho : kofs c (pc + 1) = kofs c pc + 1) (hb0 : b ≠ 0)
    (k : kZ p l e R s mid args below meth cc c base ad cT D n0 m0 Q (pc + 1) L (.inl (krem a b) :: st) h) : kZ p l e R s mid args below meth cc c base ad cT D n0 m0 Q pc L (.inl b :: .inl a :: st) h := by
  intro H ls locs hH hL hst hS hn hm
  obtain ⟨hv0, hst⟩ := List.forall_mem_cons.mp hst
  obtain ⟨hv1, hst⟩ := List.forall_mem_cons.mp hst
  have this := k H ls locs hH hL (List.forall_mem_cons.mpr ⟨kn_r _, hst⟩) hS hn hm
  rw [ho] at this
  simp only [List.map_cons, kc, krem, Int32.ofInt_toInt] at this ⊢
  exact lv_irem hC.1 hC.2.1 hd (kn_ne0 hv0 hb0) this
theorem kz_ineg {a : Int} (hC : kCx p s mid args meth cc c base ad cT D sc) (hd : decode (kaq c).2.1 (kofs c pc) = .ok (.ineg, 1)) (ho : kofs c (pc + 1) = kofs c pc + 1)
    (k : kZ p l e R s mid args below meth cc c base ad cT D n0 m0 Q (pc + 1) L (.inl (wI (-a)) :: st) h) : kZ p l e R s mid args below meth cc c base ad cT D n0 m0 Q pc L (.inl a :: st) h := by
  intro H ls locs hH hL hst hS hn hm
  obtain ⟨hv0, hst⟩ := List.forall_mem_cons.mp hst
  have this := k H ls locs hH hL (List.forall_mem_cons.mpr ⟨kn_wI _, hst⟩) hS hn hm
  rw [ho] at this
  simp only [List.map_cons, kc] at this ⊢
  rw [← kn_neg] at this
  exact lv_ineg hC.1 hC.2.1 hd this
theorem kz_ladd {a b : Int} (hC : kCx p s mid args meth cc c base ad cT D sc) (hd : decode (kaq c).2.1 (kofs c pc) = .ok (.ladd, 1)) (ho : kofs c (pc + 1) = kofs c pc + 1)
    (k : kZ p l e R s mid args below meth cc c base ad cT D n0 m0 Q (pc + 1) L (.inr (.inl (wL (a + b))) :: st) h) : kZ p l e R s mid args below meth cc c base ad cT D n0 m0 Q pc L (.inr (.inl b) :: .inr (.inl a) :: st) h := by
  intro H ls locs hH hL hst hS hn hm
  obtain ⟨hv0, hst⟩ := List.forall_mem_cons.mp hst
  obtain ⟨hv1, hst⟩ := List.forall_mem_cons.mp hst
  have this := k H ls locs hH hL (List.forall_mem_cons.mpr ⟨kn_wL _, hst⟩) hS hn hm
  rw [ho] at this
  simp only [List.map_cons, kc] at this ⊢
  rw [← kn_ladd] at this
  exact lv_ladd hC.1 hC.2.1 hd this
theorem kz_lsub {a b : Int} (hC : kCx p s mid args meth cc c base ad cT D sc) (hd : decode (kaq c).2.1 (kofs c pc) = .ok (.lsub, 1)) (ho : kofs c (pc + 1) = kofs c pc + 1)
    (k : kZ p l e R s mid args below meth cc c base ad cT D n0 m0 Q (pc + 1) L (.inr (.inl (wL (a - b))) :: st) h) : kZ p l e R s mid args below meth cc c base ad cT D n0 m0 Q pc L (.inr (.inl b) :: .inr (.inl a) :: st) h := by
  intro H ls locs hH hL hst hS hn hm
  obtain ⟨hv0, hst⟩ := List.forall_mem_cons.mp hst
  obtain ⟨hv1, hst⟩ := List.forall_mem_cons.mp hst
  have this := k H ls locs hH hL (List.forall_mem_cons.mpr ⟨kn_wL _, hst⟩) hS hn hm
  rw [ho] at this
  simp only [List.map_cons, kc] at this ⊢
  rw [← kn_lsub] at this
  exact lv_lsub hC.1 hC.2.1 hd this
theorem kz_lmul {a b : Int} (hC : kCx p s mid args meth cc c base ad cT D sc) (hd : decode (kaq c).2.1 (kofs c pc) = .ok (.lmul, 1)) (ho : kofs c (pc + 1) = kofs c pc + 1)
    (k : kZ p l e R s mid args below meth cc c base ad cT D n0 m0 Q (pc + 1) L (.inr (.inl (wL (a * b))) :: st) h) : kZ p l e R s mid args below meth cc c base ad cT D n0 m0 Q pc L (.inr (.inl b) :: .inr (.inl a) :: st) h := by
  intro H ls locs hH hL hst hS hn hm
  obtain ⟨hv0, hst⟩ := List.forall_mem_cons.mp hst
  obtain ⟨hv1, hst⟩ := List.forall_mem_cons.mp hst
  have this := k H ls locs hH hL (List.forall_mem_cons.mpr ⟨kn_wL _, hst⟩) hS hn hm
  rw [ho] at this
  simp only [List.map_cons, kc] at this ⊢
  rw [← kn_lmul] at this
  exact lv_lmul hC.1 hC.2.1 hd this
theorem kz_land {a b : Int} (hC : kCx p s mid args meth cc c base ad cT D sc) (hd : decode (kaq c).2.1 (kofs c pc) = .ok (.land, 1)) (ho : kofs c (pc + 1) = kofs c pc + 1)
    (k : kZ p l e R s mid args below meth cc c base ad cT D n0 m0 Q (pc + 1) L (.inr (.inl (klnd a b)) :: st) h) : kZ p l e R s mid args below meth cc c base ad cT D n0 m0 Q pc L (.inr (.inl b) :: .inr (.inl a) :: st) h := by
  intro H ls locs hH hL hst hS hn hm
  obtain ⟨hv0, hst⟩ := List.forall_mem_cons.mp hst
  obtain ⟨hv1, hst⟩ := List.forall_mem_cons.mp hst
  have this := k H ls locs hH hL (List.forall_mem_cons.mpr ⟨kn_lr _, hst⟩) hS hn hm
  rw [ho] at this
  simp only [List.map_cons, kc, klnd, Int64.ofInt_toInt] at this ⊢
  exact lv_land hC.1 hC.2.1 hd this
theorem kz_lor {a b : Int} (hC : kCx p s mid args meth cc c base ad cT D sc) (hd : decode (kaq c).2.1 (kofs c pc) = .ok (.lor, 1)) (ho : kofs c (pc + 1) = kofs c pc + 1)
    (k : kZ p l e R s mid args below meth cc c base ad cT D n0 m0 Q (pc + 1) L (.inr (.inl (klor a b)) :: st) h) : kZ p l e R s mid args below meth cc c base ad cT D n0 m0 Q pc L (.inr (.inl b) :: .inr (.inl a) :: st) h := by
  intro H ls locs hH hL hst hS hn hm
  obtain ⟨hv0, hst⟩ := List.forall_mem_cons.mp hst
  obtain ⟨hv1, hst⟩ := List.forall_mem_cons.mp hst
  have this := k H ls locs hH hL (List.forall_mem_cons.mpr ⟨kn_lr _, hst⟩) hS hn hm
  rw [ho] at this
  simp only [List.map_cons, kc, klor, Int64.ofInt_toInt] at this ⊢
  exact lv_lor hC.1 hC.2.1 hd this
theorem kz_lxor {a b : Int} (hC : kCx p s mid args meth cc c base ad cT D sc) (hd : decode (kaq c).2.1 (kofs c pc) = .ok (.lxor, 1)) (ho : kofs c (pc + 1) = kofs c pc + 1)
    (k : kZ p l e R s mid args below meth cc c base ad cT D n0 m0 Q (pc + 1) L (.inr (.inl (klxor a b)) :: st) h) : kZ p l e R s mid args below meth cc c base ad cT D n0 m0 Q pc L (.inr (.inl b) :: .inr (.inl a) :: st) h := by
  intro H ls locs hH hL hst hS hn hm
  obtain ⟨hv0, hst⟩ := List.forall_mem_cons.mp hst
  obtain ⟨hv1, hst⟩ := List.forall_mem_cons.mp hst
  have this := k H ls locs hH hL (List.forall_mem_cons.mpr ⟨kn_lr _, hst⟩) hS hn hm
  rw [ho] at this
  simp only [List.map_cons, kc, klxor, Int64.ofInt_toInt] at this ⊢
  exact lv_lxor hC.1 hC.2.1 hd this
theorem kz_ldiv {a b : Int} (hC : kCx p s mid args meth cc c base ad cT D sc) (hd : decode (kaq c).2.1 (kofs c pc) = .ok (.ldiv, 1)) (ho : kofs c (pc + 1) = kofs c pc + 1) (hb0 : b ≠ 0)
    (k : kZ p l e R s mid args below meth cc c base ad cT D n0 m0 Q (pc + 1) L (.inr (.inl (kldiv a b)) :: st) h) : kZ p l e R s mid args below meth cc c base ad cT D n0 m0 Q pc L (.inr (.inl b) :: .inr (.inl a) :: st) h := by
  intro H ls locs hH hL hst hS hn hm
  obtain ⟨hv0, hst⟩ := List.forall_mem_cons.mp hst
  obtain ⟨hv1, hst⟩ := List.forall_mem_cons.mp hst
  have this := k H ls locs hH hL (List.forall_mem_cons.mpr ⟨kn_lr _, hst⟩) hS hn hm
  rw [ho] at this
  simp only [List.map_cons, kc, kldiv, Int64.ofInt_toInt] at this ⊢
  exact lv_ldiv hC.1 hC.2.1 hd (kn_lne0 hv0 hb0) this
theorem kz_lrem {a b : Int} (hC : kCx p s mid args meth cc c base ad cT D sc) (hd : decode (kaq c).2.1 (kofs c pc) = .ok (.lrem, 1)) (ho : kofs c (pc + 1) = kofs c pc + 1) (hb0 : b ≠ 0)
    (k : kZ p l e R s mid args below meth cc c base ad cT D n0 m0 Q (pc + 1) L (.inr (.inl (klrem a b)) :: st) h) : kZ p l e R s mid args below meth cc c base ad cT D n0 m0 Q pc L (.inr (.inl b) :: .inr (.inl a) :: st) h := by
  intro H ls locs hH hL hst hS hn hm
  obtain ⟨hv0, hst⟩ := List.forall_mem_cons.mp hst
  obtain ⟨hv1, hst⟩ := List.forall_mem_cons.mp hst
  have this := k H ls locs hH hL (List.forall_mem_cons.mpr ⟨kn_lr _, hst⟩) hS hn hm
  rw [ho] at this
  simp only [List.map_cons, kc, klrem, Int64.ofInt_toInt] at this ⊢
  exact lv_lrem hC.1 hC.2.1 hd (kn_lne0 hv0 hb0) this
theorem kz_lneg {a : Int} (hC : kCx p s mid args meth cc c base ad cT D sc) (hd : decode (kaq c).2.1 (kofs c pc) = .ok (.lneg, 1)) (ho : kofs c (pc + 1) = kofs c pc + 1)
    (k : kZ p l e R s mid args below meth cc c base ad cT D n0 m0 Q (pc + 1) L (.inr (.inl (wL (-a))) :: st) h) : kZ p l e R s mid args below meth cc c base ad cT D n0 m0 Q pc L (.inr (.inl a) :: st) h := by
  intro H ls locs hH hL hst hS hn hm
  obtain ⟨hv0, hst⟩ := List.forall_mem_cons.mp hst
  have this := k H ls locs hH hL (List.forall_mem_cons.mpr ⟨kn_wL _, hst⟩) hS hn hm
  rw [ho] at this
  simp only [List.map_cons, kc] at this ⊢
  rw [← kn_lneg] at this
  exact lv_lneg hC.1 hC.2.1 hd this
theorem kz_lshl {a b : Int} (hC : kCx p s mid args meth cc c base ad cT D sc) (hd : decode (kaq c).2.1 (kofs c pc) = .ok (.lshl, 1)) (ho : kofs c (pc + 1) = kofs c pc + 1)
    (k : kZ p l e R s mid args below meth cc c base ad cT D n0 m0 Q (pc + 1) L (.inr (.inl (klshl a b)) :: st) h) : kZ p l e R s mid args below meth cc c base ad cT D n0 m0 Q pc L (.inl b :: .inr (.inl a) :: st) h := by
  intro H ls locs hH hL hst hS hn hm
  obtain ⟨hv0, hst⟩ := List.forall_mem_cons.mp hst
  obtain ⟨hv1, hst⟩ := List.forall_mem_cons.mp hst
  have this := k H ls locs hH hL (List.forall_mem_cons.mpr ⟨kn_lr _, hst⟩) hS hn hm
  rw [ho] at this
  simp only [List.map_cons, kc, klshl, Int64.ofInt_toInt] at this ⊢
  exact lv_lshl hC.1 hC.2.1 hd rfl this
theorem kz_lshr {a b : Int} (hC : kCx p s mid args meth cc c base ad cT D sc) (hd : decode (kaq c).2.1 (kofs c pc) = .ok (.lshr, 1)) (ho : kofs c (pc + 1) = kofs c pc + 1)
    (k : kZ p l e R s mid args below meth cc c base ad cT D n0 m0 Q (pc + 1) L (.inr (.inl (klshr a b)) :: st) h) : kZ p l e R s mid args below meth cc c base ad cT D n0 m0 Q pc L (.inl b :: .inr (.inl a) :: st) h := by
  intro H ls locs hH hL hst hS hn hm
  obtain ⟨hv0, hst⟩ := List.forall_mem_cons.mp hst
  obtain ⟨hv1, hst⟩ := List.forall_mem_cons.mp hst
  have this := k H ls locs hH hL (List.forall_mem_cons.mpr ⟨kn_lr _, hst⟩) hS hn hm
  rw [ho] at this
  simp only [List.map_cons, kc, klshr, Int64.ofInt_toInt] at this ⊢
  exact lv_lshr hC.1 hC.2.1 hd rfl this
theorem kz_lushr {a b : Int} (hC : kCx p s mid args meth cc c base ad cT D sc) (hd : decode (kaq c).2.1 (kofs c pc) = .ok (.lushr, 1)) (ho : kofs c (pc + 1) = kofs c pc + 1)
    (k : kZ p l e R s mid args below meth cc c base ad cT D n0 m0 Q (pc + 1) L (.inr (.inl (klushr a b)) :: st) h) : kZ p l e R s mid args below meth cc c base ad cT D n0 m0 Q pc L (.inl b :: .inr (.inl a) :: st) h := by
  intro H ls locs hH hL hst hS hn hm
  obtain ⟨hv0, hst⟩ := List.forall_mem_cons.mp hst
  obtain ⟨hv1, hst⟩ := List.forall_mem_cons.mp hst
  have this := k H ls locs hH hL (List.forall_mem_cons.mpr ⟨kn_lr _, hst⟩) hS hn hm
  rw [ho] at this
  simp only [List.map_cons, kc, klushr, Int64.ofInt_toInt] at this ⊢
  exact lv_lushr hC.1 hC.2.1 hd rfl this
theorem kz_i2l {a : Int} (hC : kCx p s mid args meth cc c base ad cT D sc) (hd : decode (kaq c).2.1 (kofs c pc) = .ok (.i2l, 1)) (ho : kofs c (pc + 1) = kofs c pc + 1)
    (k : kZ p l e R s mid args below meth cc c base ad cT D n0 m0 Q (pc + 1) L (.inr (.inl a) :: st) h) : kZ p l e R s mid args below meth cc c base ad cT D n0 m0 Q pc L (.inl a :: st) h := by
  intro H ls locs hH hL hst hS hn hm
  obtain ⟨hv0, hst⟩ := List.forall_mem_cons.mp hst
  have this := k H ls locs hH hL (List.forall_mem_cons.mpr ⟨(by have : kR32 a := hv0; unfold kR32 at this; show kR64 a; unfold kR64; omega), hst⟩) hS hn hm
  rw [ho] at this
  simp only [List.map_cons, kc] at this ⊢
  exact lv_i2l hC.1 hC.2.1 hd (kn_i2l hv0) this
theorem kz_l2i {a : Int} (hC : kCx p s mid args meth cc c base ad cT D sc) (hd : decode (kaq c).2.1 (kofs c pc) = .ok (.l2i, 1)) (ho : kofs c (pc + 1) = kofs c pc + 1)
    (k : kZ p l e R s mid args below meth cc c base ad cT D n0 m0 Q (pc + 1) L (.inl (wI a) :: st) h) : kZ p l e R s mid args below meth cc c base ad cT D n0 m0 Q pc L (.inr (.inl a) :: st) h := by
  intro H ls locs hH hL hst hS hn hm
  obtain ⟨hv0, hst⟩ := List.forall_mem_cons.mp hst
  have this := k H ls locs hH hL (List.forall_mem_cons.mpr ⟨kn_wI _, hst⟩) hS hn hm
  rw [ho] at this
  simp only [List.map_cons, kc] at this ⊢
  exact lv_l2i hC.1 hC.2.1 hd (kn_l2i a) this
theorem kz_i2b {a : Int} (hC : kCx p s mid args meth cc c base ad cT D sc) (hd : decode (kaq c).2.1 (kofs c pc) = .ok (.i2b, 1)) (ho : kofs c (pc + 1) = kofs c pc + 1)
    (k : kZ p l e R s mid args below meth cc c base ad cT D n0 m0 Q (pc + 1) L (.inl (ki2b a) :: st) h) : kZ p l e R s mid args below meth cc c base ad cT D n0 m0 Q pc L (.inl a :: st) h := by
  intro H ls locs hH hL hst hS hn hm
  obtain ⟨hv0, hst⟩ := List.forall_mem_cons.mp hst
  have this := k H ls locs hH hL (List.forall_mem_cons.mpr ⟨kn_r _, hst⟩) hS hn hm
  rw [ho] at this
  simp only [List.map_cons, kc, ki2b, Int32.ofInt_toInt] at this ⊢
  exact lv_i2b hC.1 hC.2.1 hd rfl this
theorem kz_i2s {a : Int} (hC : kCx p s mid args meth cc c base ad cT D sc) (hd : decode (kaq c).2.1 (kofs c pc) = .ok (.i2s, 1)) (ho : kofs c (pc + 1) = kofs c pc + 1)
    (k : kZ p l e R s mid args below meth cc c base ad cT D n0 m0 Q (pc + 1) L (.inl (ki2s a) :: st) h) : kZ p l e R s mid args below meth cc c base ad cT D n0 m0 Q pc L (.inl a :: st) h := by
  intro H ls locs hH hL hst hS hn hm
  obtain ⟨hv0, hst⟩ := List.forall_mem_cons.mp hst
  have this := k H ls locs hH hL (List.forall_mem_cons.mpr ⟨kn_r _, hst⟩) hS hn hm
  rw [ho] at this
  simp only [List.map_cons, kc, ki2s, Int32.ofInt_toInt] at this ⊢
  exact lv_i2s hC.1 hC.2.1 hd rfl this
theorem kz_lcmp {a b : Int} (hC : kCx p s mid args meth cc c base ad cT D sc) (hd : decode (kaq c).2.1 (kofs c pc) = .ok (.lcmp, 1)) (ho : kofs c (pc + 1) = kofs c pc + 1)
    (k : kZ p l e R s mid args below meth cc c base ad cT D n0 m0 Q (pc + 1) L (.inl (klcmp a b) :: st) h) : kZ p l e R s mid args below meth cc c base ad cT D n0 m0 Q pc L (.inr (.inl b) :: .inr (.inl a) :: st) h := by
  intro H ls locs hH hL hst hS hn hm
  obtain ⟨hv0, hst⟩ := List.forall_mem_cons.mp hst
  obtain ⟨hv1, hst⟩ := List.forall_mem_cons.mp hst
  have this := k H ls locs hH hL (List.forall_mem_cons.mpr ⟨(by show kR32 (klcmp a b); unfold klcmp kR32; split <;> (try split) <;> omega), hst⟩) hS hn hm
  rw [ho] at this
  simp only [List.map_cons, kc] at this ⊢
  rw [← kn_cmp hv1 hv0] at this
  exact W.lcmp hC.1 hC.2.1 hd this
theorem kz_iconst {n : Int} (hC : kCx p s mid args meth cc c base ad cT D sc) (hd : decode (kaq c).2.1 (kofs c pc) = .ok (.iconst n, 1)) (ho : kofs c (pc + 1) = kofs c pc + 1) (hr : -1 ≤ n ∧ n ≤ 5)
    (k : kZ p l e R s mid args below meth cc c base ad cT D n0 m0 Q (pc + 1) L (.inl n :: st) h) : kZ p l e R s mid args below meth cc c base ad cT D n0 m0 Q pc L (st) h := by
  intro H ls locs hH hL hst hS hn hm
  have this := k H ls locs hH hL (List.forall_mem_cons.mpr ⟨(by show kR32 n; unfold kR32; omega), hst⟩) hS hn hm
  rw [ho] at this
  simp only [List.map_cons, kc] at this ⊢
  exact lv_iconst hC.1 hC.2.1 hd rfl this
theorem kn_bi {n : Int} (h : -128 ≤ n ∧ n ≤ 127) : (Int8.ofInt n).toInt32 = Int32.ofInt n := by
  apply Int32.toInt_inj.mp
  rw [Int8.toInt_toInt32, Int8.toInt_ofInt, Int32.toInt_ofInt]
  simp only [Int8.size, Int32.size]
  rw [Int.bmod_eq_of_le (by omega) (by omega), Int.bmod_eq_of_le (by omega) (by omega)]
theorem kn_si {n : Int} (h : -32768 ≤ n ∧ n ≤ 32767) : (Int16.ofInt n).toInt32 = Int32.ofInt n := by
  apply Int32.toInt_inj.mp
  rw [Int16.toInt_toInt32, Int16.toInt_ofInt, Int32.toInt_ofInt]
  simp only [Int16.size, Int32.size]
  rw [Int.bmod_eq_of_le (by omega) (by omega), Int.bmod_eq_of_le (by omega) (by omega)]
theorem kz_bipush {n : Int} (hC : kCx p s mid args meth cc c base ad cT D sc) (hd : decode (kaq c).2.1 (kofs c pc) = .ok (.bipush n, 2)) (ho : kofs c (pc + 1) = kofs c pc + 2) (hr : -128 ≤ n ∧ n ≤ 127)
    (k : kZ p l e R s mid args below meth cc c base ad cT D n0 m0 Q (pc + 1) L (.inl n :: st) h) : kZ p l e R s mid args below meth cc c base ad cT D n0 m0 Q pc L (st) h := by
  intro H ls locs hH hL hst hS hn hm
  have this := k H ls locs hH hL (List.forall_mem_cons.mpr ⟨(by show kR32 n; unfold kR32; omega), hst⟩) hS hn hm
  rw [ho] at this
  simp only [List.map_cons, kc] at this ⊢
  exact lv_bipush hC.1 hC.2.1 hd (kn_bi hr) this
theorem kz_sipush {n : Int} (hC : kCx p s mid args meth cc c base ad cT D sc) (hd : decode (kaq c).2.1 (kofs c pc) = .ok (.sipush n, 3)) (ho : kofs c (pc + 1) = kofs c pc + 3) (hr : -32768 ≤ n ∧ n ≤ 32767)
    (k : kZ p l e R s mid args below meth cc c base ad cT D n0 m0 Q (pc + 1) L (.inl n :: st) h) : kZ p l e R s mid args below meth cc c base ad cT D n0 m0 Q pc L (st) h := by
  intro H ls locs hH hL hst hS hn hm
  have this := k H ls locs hH hL (List.forall_mem_cons.mpr ⟨(by show kR32 n; unfold kR32; omega), hst⟩) hS hn hm
  rw [ho] at this
  simp only [List.map_cons, kc] at this ⊢
  exact lv_sipush hC.1 hC.2.1 hd (kn_si hr) this
theorem kz_lconst {n : Fin 2} (hC : kCx p s mid args meth cc c base ad cT D sc) (hd : decode (kaq c).2.1 (kofs c pc) = .ok (.lconst n, 1)) (ho : kofs c (pc + 1) = kofs c pc + 1)
    (k : kZ p l e R s mid args below meth cc c base ad cT D n0 m0 Q (pc + 1) L (.inr (.inl (n.val : Int)) :: st) h) : kZ p l e R s mid args below meth cc c base ad cT D n0 m0 Q pc L (st) h := by
  intro H ls locs hH hL hst hS hn hm
  have this := k H ls locs hH hL (List.forall_mem_cons.mpr ⟨(by have := n.isLt; show kR64 _; unfold kR64; omega), hst⟩) hS hn hm
  rw [ho] at this
  simp only [List.map_cons, kc] at this ⊢
  exact lv_lconst hC.1 hC.2.1 hd rfl this
theorem kz_ldci {i : Nat} {n : Int} (hC : kCx p s mid args meth cc c base ad cT D sc) (hd : decode (kaq c).2.1 (kofs c pc) = .ok (.ldc i, 2)) (ho : kofs c (pc + 1) = kofs c pc + 2) (hr : -2147483648 ≤ n ∧ n ≤ 2147483647) (hw : Cond.constant (kon (kaq c).2.2.2.2) i (Int32.ofInt n) ∈ kG)
    (k : kZ p l e R s mid args below meth cc c base ad cT D n0 m0 Q (pc + 1) L (.inl n :: st) h) : kZ p l e R s mid args below meth cc c base ad cT D n0 m0 Q pc L (st) h := by
  intro H ls locs hH hL hst hS hn hm
  have this := k H ls locs hH hL (List.forall_mem_cons.mpr ⟨hr, hst⟩) hS hn hm
  rw [ho] at this
  simp only [List.map_cons, kc] at this ⊢
  exact lv_ldc hC.1 hC.2.1 hC.2.2.2.2.2.1 (hC.2.2.2.2.2.2.1 _ hw) hd this
theorem kz_ldcwi {i : Nat} {n : Int} (hC : kCx p s mid args meth cc c base ad cT D sc) (hd : decode (kaq c).2.1 (kofs c pc) = .ok (.ldc_w i, 3)) (ho : kofs c (pc + 1) = kofs c pc + 3) (hr : -2147483648 ≤ n ∧ n ≤ 2147483647) (hw : Cond.constant (kon (kaq c).2.2.2.2) i (Int32.ofInt n) ∈ kG)
    (k : kZ p l e R s mid args below meth cc c base ad cT D n0 m0 Q (pc + 1) L (.inl n :: st) h) : kZ p l e R s mid args below meth cc c base ad cT D n0 m0 Q pc L (st) h := by
  intro H ls locs hH hL hst hS hn hm
  have this := k H ls locs hH hL (List.forall_mem_cons.mpr ⟨hr, hst⟩) hS hn hm
  rw [ho] at this
  simp only [List.map_cons, kc] at this ⊢
  exact lv_ldcw hC.1 hC.2.1 hC.2.2.2.2.2.1 (hC.2.2.2.2.2.2.1 _ hw) hd this
theorem kz_ldc2 {i : Nat} {n : Int} (hC : kCx p s mid args meth cc c base ad cT D sc) (hd : decode (kaq c).2.1 (kofs c pc) = .ok (.ldc2_w i, 3)) (ho : kofs c (pc + 1) = kofs c pc + 3) (hr : -9223372036854775808 ≤ n ∧ n ≤ 9223372036854775807) (hw : Cond.constantLong (kon (kaq c).2.2.2.2) i (Int64.ofInt n) ∈ kG)
    (k : kZ p l e R s mid args below meth cc c base ad cT D n0 m0 Q (pc + 1) L (.inr (.inl n) :: st) h) : kZ p l e R s mid args below meth cc c base ad cT D n0 m0 Q pc L (st) h := by
  intro H ls locs hH hL hst hS hn hm
  have this := k H ls locs hH hL (List.forall_mem_cons.mpr ⟨hr, hst⟩) hS hn hm
  rw [ho] at this
  simp only [List.map_cons, kc] at this ⊢
  exact lv_ldc2 hC.1 hC.2.1 hC.2.2.2.2.2.1 (hC.2.2.2.2.2.2.1 _ hw) hd this
theorem kz_aconst_null  (hC : kCx p s mid args meth cc c base ad cT D sc) (hd : decode (kaq c).2.1 (kofs c pc) = .ok (.aconst_null, 1)) (ho : kofs c (pc + 1) = kofs c pc + 1)
    (k : kZ p l e R s mid args below meth cc c base ad cT D n0 m0 Q (pc + 1) L (.inr (.inr (.inl none)) :: st) h) : kZ p l e R s mid args below meth cc c base ad cT D n0 m0 Q pc L (st) h := by
  intro H ls locs hH hL hst hS hn hm
  have this := k H ls locs hH hL (List.forall_mem_cons.mpr ⟨trivial, hst⟩) hS hn hm
  rw [ho] at this
  simp only [List.map_cons, kc] at this ⊢
  exact lv_null hC.1 hC.2.1 hd this
theorem kz_iload {i : Nat} {x : Int} (hC : kCx p s mid args meth cc c base ad cT D sc) (hd : decode (kaq c).2.1 (kofs c pc) = .ok (.iload i, 2)) (ho : kofs c (pc + 1) = kofs c pc + 2) (hx : L[i]? = some (some (.inl x)))
    (k : kZ p l e R s mid args below meth cc c base ad cT D n0 m0 Q (pc + 1) L (.inl x :: st) h) : kZ p l e R s mid args below meth cc c base ad cT D n0 m0 Q pc L (st) h := by
  intro H ls locs hH hL hst hS hn hm
  have this := k H ls locs hH hL (List.forall_mem_cons.mpr ⟨(hL.2.1 i _ hx), hst⟩) hS hn hm
  rw [ho] at this
  simp only [List.map_cons, kc] at this ⊢
  exact lv_iload hC.1 hC.2.1 hd (hL.2.2.2.2 i _ hx) this
theorem kz_iload_n {i4 : Fin 4} {x : Int} (hC : kCx p s mid args meth cc c base ad cT D sc) (hd : decode (kaq c).2.1 (kofs c pc) = .ok (.iload_n i4, 1)) (ho : kofs c (pc + 1) = kofs c pc + 1) (hx : L[i4.val]? = some (some (.inl x)))
    (k : kZ p l e R s mid args below meth cc c base ad cT D n0 m0 Q (pc + 1) L (.inl x :: st) h) : kZ p l e R s mid args below meth cc c base ad cT D n0 m0 Q pc L (st) h := by
  intro H ls locs hH hL hst hS hn hm
  have this := k H ls locs hH hL (List.forall_mem_cons.mpr ⟨(hL.2.1 i4.val _ hx), hst⟩) hS hn hm
  rw [ho] at this
  simp only [List.map_cons, kc] at this ⊢
  exact lv_iload_n hC.1 hC.2.1 hd rfl (hL.2.2.2.2 i4.val _ hx) this
theorem kz_lload {i : Nat} {x : Int} (hC : kCx p s mid args meth cc c base ad cT D sc) (hd : decode (kaq c).2.1 (kofs c pc) = .ok (.lload i, 2)) (ho : kofs c (pc + 1) = kofs c pc + 2) (hx : L[i]? = some (some (.inr (.inl x))))
    (k : kZ p l e R s mid args below meth cc c base ad cT D n0 m0 Q (pc + 1) L (.inr (.inl x) :: st) h) : kZ p l e R s mid args below meth cc c base ad cT D n0 m0 Q pc L (st) h := by
  intro H ls locs hH hL hst hS hn hm
  have this := k H ls locs hH hL (List.forall_mem_cons.mpr ⟨(hL.2.1 i _ hx), hst⟩) hS hn hm
  rw [ho] at this
  simp only [List.map_cons, kc] at this ⊢
  exact lv_lload hC.1 hC.2.1 hd (hL.2.2.2.2 i _ hx) this
theorem kz_lload_n {i4 : Fin 4} {x : Int} (hC : kCx p s mid args meth cc c base ad cT D sc) (hd : decode (kaq c).2.1 (kofs c pc) = .ok (.lload_n i4, 1)) (ho : kofs c (pc + 1) = kofs c pc + 1) (hx : L[i4.val]? = some (some (.inr (.inl x))))
    (k : kZ p l e R s mid args below meth cc c base ad cT D n0 m0 Q (pc + 1) L (.inr (.inl x) :: st) h) : kZ p l e R s mid args below meth cc c base ad cT D n0 m0 Q pc L (st) h := by
  intro H ls locs hH hL hst hS hn hm
  have this := k H ls locs hH hL (List.forall_mem_cons.mpr ⟨(hL.2.1 i4.val _ hx), hst⟩) hS hn hm
  rw [ho] at this
  simp only [List.map_cons, kc] at this ⊢
  exact lv_lload_n hC.1 hC.2.1 hd rfl (hL.2.2.2.2 i4.val _ hx) this
theorem kz_aload {i : Nat} {x : Option Nat ⊕ Nat} (hC : kCx p s mid args meth cc c base ad cT D sc) (hd : decode (kaq c).2.1 (kofs c pc) = .ok (.aload i, 2)) (ho : kofs c (pc + 1) = kofs c pc + 2) (hx : L[i]? = some (some (.inr (.inr x))))
    (k : kZ p l e R s mid args below meth cc c base ad cT D n0 m0 Q (pc + 1) L (.inr (.inr x) :: st) h) : kZ p l e R s mid args below meth cc c base ad cT D n0 m0 Q pc L (st) h := by
  intro H ls locs hH hL hst hS hn hm
  have this := k H ls locs hH hL (List.forall_mem_cons.mpr ⟨trivial, hst⟩) hS hn hm
  rw [ho] at this
  simp only [List.map_cons, List.map_cons] at this ⊢
  have hl := hL.2.2.2.2 i _ hx
  rcases x with x | x
  · rcases x with _ | x
    · exact lv_aloadN hC.1 hC.2.1 hd hl this
    · exact lv_aload hC.1 hC.2.1 hd hl this
  · exact lv_aload hC.1 hC.2.1 hd hl this
theorem kz_aload_n {i4 : Fin 4} {x : Option Nat ⊕ Nat} (hC : kCx p s mid args meth cc c base ad cT D sc) (hd : decode (kaq c).2.1 (kofs c pc) = .ok (.aload_n i4, 1)) (ho : kofs c (pc + 1) = kofs c pc + 1) (hx : L[i4.val]? = some (some (.inr (.inr x))))
    (k : kZ p l e R s mid args below meth cc c base ad cT D n0 m0 Q (pc + 1) L (.inr (.inr x) :: st) h) : kZ p l e R s mid args below meth cc c base ad cT D n0 m0 Q pc L (st) h := by
  intro H ls locs hH hL hst hS hn hm
  have this := k H ls locs hH hL (List.forall_mem_cons.mpr ⟨trivial, hst⟩) hS hn hm
  rw [ho] at this
  simp only [List.map_cons, List.map_cons] at this ⊢
  have hl := hL.2.2.2.2 i4.val _ hx
  rcases x with x | x
  · rcases x with _ | x
    · exact lv_aload_nN hC.1 hC.2.1 hd rfl hl this
    · exact lv_aload_n hC.1 hC.2.1 hd rfl hl this
  · exact lv_aload_n hC.1 hC.2.1 hd rfl hl this
theorem kn_cat (v : kV) : (kc base ad v).category = kwt v := by
  rcases v with x | x | x | x
  · rfl
  · rfl
  · rcases x with _ | x <;> rfl
  · rfl
theorem kn_cat1 {v : kV} (hv : ¬ kislong v = true) : (kc base ad v).category = 1 := by
  rw [kn_cat, kwt, if_neg hv]
theorem kz_dup {v : kV} (hC : kCx p s mid args meth cc c base ad cT D sc) (hd : decode (kaq c).2.1 (kofs c pc) = .ok (.dup, 1)) (ho : kofs c (pc + 1) = kofs c pc + 1) (hl : ¬ kislong v = true)
    (k : kZ p l e R s mid args below meth cc c base ad cT D n0 m0 Q (pc + 1) L (v :: v :: st) h) : kZ p l e R s mid args below meth cc c base ad cT D n0 m0 Q pc L (v :: st) h := by
  intro H ls locs hH hL hst hS hn hm
  obtain ⟨hv0, hst⟩ := List.forall_mem_cons.mp hst
  have this := k H ls locs hH hL (List.forall_mem_cons.mpr ⟨hv0, List.forall_mem_cons.mpr ⟨hv0, hst⟩⟩) hS hn hm
  rw [ho] at this
  simp only [List.map_cons, List.map_cons] at this ⊢
  exact lv_dup hC.1 hC.2.1 hd (kn_cat1 hl) this
theorem kz_pop {v : kV} (hC : kCx p s mid args meth cc c base ad cT D sc) (hd : decode (kaq c).2.1 (kofs c pc) = .ok (.pop, 1)) (ho : kofs c (pc + 1) = kofs c pc + 1) (hl : ¬ kislong v = true)
    (k : kZ p l e R s mid args below meth cc c base ad cT D n0 m0 Q (pc + 1) L (st) h) : kZ p l e R s mid args below meth cc c base ad cT D n0 m0 Q pc L (v :: st) h := by
  intro H ls locs hH hL hst hS hn hm
  obtain ⟨hv0, hst⟩ := List.forall_mem_cons.mp hst
  have this := k H ls locs hH hL hst hS hn hm
  rw [ho] at this
  simp only [List.map_cons, List.map_cons] at this ⊢
  exact lv_pop hC.1 hC.2.1 hd (kn_cat1 hl) this
theorem kz_dup2 {v w : kV} (hC : kCx p s mid args meth cc c base ad cT D sc) (hd : decode (kaq c).2.1 (kofs c pc) = .ok (.dup2, 1)) (ho : kofs c (pc + 1) = kofs c pc + 1) (hl : ¬ (kislong v = true ∨ kislong w = true))
    (k : kZ p l e R s mid args below meth cc c base ad cT D n0 m0 Q (pc + 1) L (v :: w :: v :: w :: st) h) : kZ p l e R s mid args below meth cc c base ad cT D n0 m0 Q pc L (v :: w :: st) h := by
  intro H ls locs hH hL hst hS hn hm
  obtain ⟨hv0, hst⟩ := List.forall_mem_cons.mp hst
  obtain ⟨hv1, hst⟩ := List.forall_mem_cons.mp hst
  have this := k H ls locs hH hL (List.forall_mem_cons.mpr ⟨hv0, List.forall_mem_cons.mpr ⟨hv1, List.forall_mem_cons.mpr ⟨hv0, List.forall_mem_cons.mpr ⟨hv1, hst⟩⟩⟩⟩) hS hn hm
  rw [ho] at this
  simp only [List.map_cons, List.map_cons] at this ⊢
  exact lv_dup2_11 hC.1 hC.2.1 hd (kn_cat1 (fun q => hl (Or.inl q))) (kn_cat1 (fun q => hl (Or.inr q))) this
theorem kz_if_eq {a t : Int} {off : Int} (hC : kCx p s mid args meth cc c base ad cT D sc) (hd : decode (kaq c).2.1 (kofs c pc) = .ok (.ifCond .eq off, 3)) (ho : kofs c (pc + 1) = kofs c pc + 3) (ht : (kofs c pc : Int) + off = (kofs c t.toNat : Int))
    (k : kZ p l e R s mid args below meth cc c base ad cT D n0 m0 Q (if kcnd .eq a 0 = true then t.toNat else pc + 1) L st h) : kZ p l e R s mid args below meth cc c base ad cT D n0 m0 Q pc L (.inl a :: st) h := by
  intro H ls locs hH hL hst hS hn hm
  obtain ⟨hv0, hst⟩ := List.forall_mem_cons.mp hst
  have this := k H ls locs hH hL hst hS hn hm
  simp only [List.map_cons, kc] at this ⊢
  refine lv_if_eq hC.1 hC.2.1 hd ht (fun q => ?_) (fun q => ?_)
  · rw [if_pos (show kcnd .eq a 0 = true from decide_eq_true ((kn_eq hv0 kn_0).mp q))] at this; exact this
  · rw [if_neg (show ¬ kcnd .eq a 0 = true from fun z => q ((kn_eq hv0 kn_0).mpr (of_decide_eq_true z))), ho] at this; exact this
theorem kz_icmp_eq {a b t : Int} {off : Int} (hC : kCx p s mid args meth cc c base ad cT D sc) (hd : decode (kaq c).2.1 (kofs c pc) = .ok (.if_icmp .eq off, 3)) (ho : kofs c (pc + 1) = kofs c pc + 3) (ht : (kofs c pc : Int) + off = (kofs c t.toNat : Int))
    (k : kZ p l e R s mid args below meth cc c base ad cT D n0 m0 Q (if kcnd .eq a b = true then t.toNat else pc + 1) L st h) : kZ p l e R s mid args below meth cc c base ad cT D n0 m0 Q pc L (.inl b :: .inl a :: st) h := by
  intro H ls locs hH hL hst hS hn hm
  obtain ⟨hv0, hst⟩ := List.forall_mem_cons.mp hst
  obtain ⟨hv1, hst⟩ := List.forall_mem_cons.mp hst
  have this := k H ls locs hH hL hst hS hn hm
  simp only [List.map_cons, kc] at this ⊢
  refine lv_icmp_eq hC.1 hC.2.1 hd ht (fun q => ?_) (fun q => ?_)
  · rw [if_pos (show kcnd .eq a b = true from decide_eq_true ((kn_eq hv1 hv0).mp q))] at this; exact this
  · rw [if_neg (show ¬ kcnd .eq a b = true from fun z => q ((kn_eq hv1 hv0).mpr (of_decide_eq_true z))), ho] at this; exact this
theorem kz_if_ne {a t : Int} {off : Int} (hC : kCx p s mid args meth cc c base ad cT D sc) (hd : decode (kaq c).2.1 (kofs c pc) = .ok (.ifCond .ne off, 3)) (ho : kofs c (pc + 1) = kofs c pc + 3) (ht : (kofs c pc : Int) + off = (kofs c t.toNat : Int))
    (k : kZ p l e R s mid args below meth cc c base ad cT D n0 m0 Q (if kcnd .ne a 0 = true then t.toNat else pc + 1) L st h) : kZ p l e R s mid args below meth cc c base ad cT D n0 m0 Q pc L (.inl a :: st) h := by
  intro H ls locs hH hL hst hS hn hm
  obtain ⟨hv0, hst⟩ := List.forall_mem_cons.mp hst
  have this := k H ls locs hH hL hst hS hn hm
  simp only [List.map_cons, kc] at this ⊢
  refine lv_if_ne hC.1 hC.2.1 hd ht (fun q => ?_) (fun q => ?_)
  · rw [if_pos (show kcnd .ne a 0 = true by simpa [kcnd] using fun z => q ((kn_eq hv0 kn_0).mpr z))] at this; exact this
  · rw [if_neg (show ¬ kcnd .ne a 0 = true by simpa [kcnd] using (kn_eq hv0 kn_0).mp q), ho] at this; exact this
theorem kz_icmp_ne {a b t : Int} {off : Int} (hC : kCx p s mid args meth cc c base ad cT D sc) (hd : decode (kaq c).2.1 (kofs c pc) = .ok (.if_icmp .ne off, 3)) (ho : kofs c (pc + 1) = kofs c pc + 3) (ht : (kofs c pc : Int) + off = (kofs c t.toNat : Int))
    (k : kZ p l e R s mid args below meth cc c base ad cT D n0 m0 Q (if kcnd .ne a b = true then t.toNat else pc + 1) L st h) : kZ p l e R s mid args below meth cc c base ad cT D n0 m0 Q pc L (.inl b :: .inl a :: st) h := by
  intro H ls locs hH hL hst hS hn hm
  obtain ⟨hv0, hst⟩ := List.forall_mem_cons.mp hst
  obtain ⟨hv1, hst⟩ := List.forall_mem_cons.mp hst
  have this := k H ls locs hH hL hst hS hn hm
  simp only [List.map_cons, kc] at this ⊢
  refine lv_icmp_ne hC.1 hC.2.1 hd ht (fun q => ?_) (fun q => ?_)
  · rw [if_pos (show kcnd .ne a b = true by simpa [kcnd] using fun z => q ((kn_eq hv1 hv0).mpr z))] at this; exact this
  · rw [if_neg (show ¬ kcnd .ne a b = true by simpa [kcnd] using (kn_eq hv1 hv0).mp q), ho] at this; exact this
theorem kz_if_lt {a t : Int} {off : Int} (hC : kCx p s mid args meth cc c base ad cT D sc) (hd : decode (kaq c).2.1 (kofs c pc) = .ok (.ifCond .lt off, 3)) (ho : kofs c (pc + 1) = kofs c pc + 3) (ht : (kofs c pc : Int) + off = (kofs c t.toNat : Int))
    (k : kZ p l e R s mid args below meth cc c base ad cT D n0 m0 Q (if kcnd .lt a 0 = true then t.toNat else pc + 1) L st h) : kZ p l e R s mid args below meth cc c base ad cT D n0 m0 Q pc L (.inl a :: st) h := by
  intro H ls locs hH hL hst hS hn hm
  obtain ⟨hv0, hst⟩ := List.forall_mem_cons.mp hst
  have this := k H ls locs hH hL hst hS hn hm
  simp only [List.map_cons, kc] at this ⊢
  refine lv_if_lt hC.1 hC.2.1 hd ht (fun q => ?_) (fun q => ?_)
  · rw [if_pos (show kcnd .lt a 0 = true from decide_eq_true ((kn_lt hv0 kn_0).mp q))] at this; exact this
  · rw [if_neg (show ¬ kcnd .lt a 0 = true from fun z => q ((kn_lt hv0 kn_0).mpr (of_decide_eq_true z))), ho] at this; exact this
theorem kz_icmp_lt {a b t : Int} {off : Int} (hC : kCx p s mid args meth cc c base ad cT D sc) (hd : decode (kaq c).2.1 (kofs c pc) = .ok (.if_icmp .lt off, 3)) (ho : kofs c (pc + 1) = kofs c pc + 3) (ht : (kofs c pc : Int) + off = (kofs c t.toNat : Int))
    (k : kZ p l e R s mid args below meth cc c base ad cT D n0 m0 Q (if kcnd .lt a b = true then t.toNat else pc + 1) L st h) : kZ p l e R s mid args below meth cc c base ad cT D n0 m0 Q pc L (.inl b :: .inl a :: st) h := by
  intro H ls locs hH hL hst hS hn hm
  obtain ⟨hv0, hst⟩ := List.forall_mem_cons.mp hst
  obtain ⟨hv1, hst⟩ := List.forall_mem_cons.mp hst
  have this := k H ls locs hH hL hst hS hn hm
  simp only [List.map_cons, kc] at this ⊢
  refine lv_icmp_lt hC.1 hC.2.1 hd ht (fun q => ?_) (fun q => ?_)
  · rw [if_pos (show kcnd .lt a b = true from decide_eq_true ((kn_lt hv1 hv0).mp q))] at this; exact this
  · rw [if_neg (show ¬ kcnd .lt a b = true from fun z => q ((kn_lt hv1 hv0).mpr (of_decide_eq_true z))), ho] at this; exact this
theorem kz_if_ge {a t : Int} {off : Int} (hC : kCx p s mid args meth cc c base ad cT D sc) (hd : decode (kaq c).2.1 (kofs c pc) = .ok (.ifCond .ge off, 3)) (ho : kofs c (pc + 1) = kofs c pc + 3) (ht : (kofs c pc : Int) + off = (kofs c t.toNat : Int))
    (k : kZ p l e R s mid args below meth cc c base ad cT D n0 m0 Q (if kcnd .ge a 0 = true then t.toNat else pc + 1) L st h) : kZ p l e R s mid args below meth cc c base ad cT D n0 m0 Q pc L (.inl a :: st) h := by
  intro H ls locs hH hL hst hS hn hm
  obtain ⟨hv0, hst⟩ := List.forall_mem_cons.mp hst
  have this := k H ls locs hH hL hst hS hn hm
  simp only [List.map_cons, kc] at this ⊢
  refine lv_if_ge hC.1 hC.2.1 hd ht (fun q => ?_) (fun q => ?_)
  · rw [if_pos (show kcnd .ge a 0 = true from decide_eq_true ((kn_le kn_0 hv0).mp q))] at this; exact this
  · rw [if_neg (show ¬ kcnd .ge a 0 = true from fun z => q ((kn_le kn_0 hv0).mpr (of_decide_eq_true z))), ho] at this; exact this
theorem kz_icmp_ge {a b t : Int} {off : Int} (hC : kCx p s mid args meth cc c base ad cT D sc) (hd : decode (kaq c).2.1 (kofs c pc) = .ok (.if_icmp .ge off, 3)) (ho : kofs c (pc + 1) = kofs c pc + 3) (ht : (kofs c pc : Int) + off = (kofs c t.toNat : Int))
    (k : kZ p l e R s mid args below meth cc c base ad cT D n0 m0 Q (if kcnd .ge a b = true then t.toNat else pc + 1) L st h) : kZ p l e R s mid args below meth cc c base ad cT D n0 m0 Q pc L (.inl b :: .inl a :: st) h := by
  intro H ls locs hH hL hst hS hn hm
  obtain ⟨hv0, hst⟩ := List.forall_mem_cons.mp hst
  obtain ⟨hv1, hst⟩ := List.forall_mem_cons.mp hst
  have this := k H ls locs hH hL hst hS hn hm
  simp only [List.map_cons, kc] at this ⊢
  refine lv_icmp_ge hC.1 hC.2.1 hd ht (fun q => ?_) (fun q => ?_)
  · rw [if_pos (show kcnd .ge a b = true from decide_eq_true ((kn_le hv0 hv1).mp q))] at this; exact this
  · rw [if_neg (show ¬ kcnd .ge a b = true from fun z => q ((kn_le hv0 hv1).mpr (of_decide_eq_true z))), ho] at this; exact this
theorem kz_if_gt {a t : Int} {off : Int} (hC : kCx p s mid args meth cc c base ad cT D sc) (hd : decode (kaq c).2.1 (kofs c pc) = .ok (.ifCond .gt off, 3)) (ho : kofs c (pc + 1) = kofs c pc + 3) (ht : (kofs c pc : Int) + off = (kofs c t.toNat : Int))
    (k : kZ p l e R s mid args below meth cc c base ad cT D n0 m0 Q (if kcnd .gt a 0 = true then t.toNat else pc + 1) L st h) : kZ p l e R s mid args below meth cc c base ad cT D n0 m0 Q pc L (.inl a :: st) h := by
  intro H ls locs hH hL hst hS hn hm
  obtain ⟨hv0, hst⟩ := List.forall_mem_cons.mp hst
  have this := k H ls locs hH hL hst hS hn hm
  simp only [List.map_cons, kc] at this ⊢
  refine lv_if_gt hC.1 hC.2.1 hd ht (fun q => ?_) (fun q => ?_)
  · rw [if_pos (show kcnd .gt a 0 = true from decide_eq_true ((kn_lt kn_0 hv0).mp q))] at this; exact this
  · rw [if_neg (show ¬ kcnd .gt a 0 = true from fun z => q ((kn_lt kn_0 hv0).mpr (of_decide_eq_true z))), ho] at this; exact this
theorem kz_icmp_gt {a b t : Int} {off : Int} (hC : kCx p s mid args meth cc c base ad cT D sc) (hd : decode (kaq c).2.1 (kofs c pc) = .ok (.if_icmp .gt off, 3)) (ho : kofs c (pc + 1) = kofs c pc + 3) (ht : (kofs c pc : Int) + off = (kofs c t.toNat : Int))
    (k : kZ p l e R s mid args below meth cc c base ad cT D n0 m0 Q (if kcnd .gt a b = true then t.toNat else pc + 1) L st h) : kZ p l e R s mid args below meth cc c base ad cT D n0 m0 Q pc L (.inl b :: .inl a :: st) h := by
  intro H ls locs hH hL hst hS hn hm
  obtain ⟨hv0, hst⟩ := List.forall_mem_cons.mp hst
  obtain ⟨hv1, hst⟩ := List.forall_mem_cons.mp hst
  have this := k H ls locs hH hL hst hS hn hm
  simp only [List.map_cons, kc] at this ⊢
  refine lv_icmp_gt hC.1 hC.2.1 hd ht (fun q => ?_) (fun q => ?_)
  · rw [if_pos (show kcnd .gt a b = true from decide_eq_true ((kn_lt hv0 hv1).mp q))] at this; exact this
  · rw [if_neg (show ¬ kcnd .gt a b = true from fun z => q ((kn_lt hv0 hv1).mpr (of_decide_eq_true z))), ho] at this; exact this
theorem kz_if_le {a t : Int} {off : Int} (hC : kCx p s mid args meth cc c base ad cT D sc) (hd : decode (kaq c).2.1 (kofs c pc) = .ok (.ifCond .le off, 3)) (ho : kofs c (pc + 1) = kofs c pc + 3) (ht : (kofs c pc : Int) + off = (kofs c t.toNat : Int))
    (k : kZ p l e R s mid args below meth cc c base ad cT D n0 m0 Q (if kcnd .le a 0 = true then t.toNat else pc + 1) L st h) : kZ p l e R s mid args below meth cc c base ad cT D n0 m0 Q pc L (.inl a :: st) h := by
  intro H ls locs hH hL hst hS hn hm
  obtain ⟨hv0, hst⟩ := List.forall_mem_cons.mp hst
  have this := k H ls locs hH hL hst hS hn hm
  simp only [List.map_cons, kc] at this ⊢
  refine lv_if_le hC.1 hC.2.1 hd ht (fun q => ?_) (fun q => ?_)
  · rw [if_pos (show kcnd .le a 0 = true from decide_eq_true ((kn_le hv0 kn_0).mp q))] at this; exact this
  · rw [if_neg (show ¬ kcnd .le a 0 = true from fun z => q ((kn_le hv0 kn_0).mpr (of_decide_eq_true z))), ho] at this; exact this
theorem kz_icmp_le {a b t : Int} {off : Int} (hC : kCx p s mid args meth cc c base ad cT D sc) (hd : decode (kaq c).2.1 (kofs c pc) = .ok (.if_icmp .le off, 3)) (ho : kofs c (pc + 1) = kofs c pc + 3) (ht : (kofs c pc : Int) + off = (kofs c t.toNat : Int))
    (k : kZ p l e R s mid args below meth cc c base ad cT D n0 m0 Q (if kcnd .le a b = true then t.toNat else pc + 1) L st h) : kZ p l e R s mid args below meth cc c base ad cT D n0 m0 Q pc L (.inl b :: .inl a :: st) h := by
  intro H ls locs hH hL hst hS hn hm
  obtain ⟨hv0, hst⟩ := List.forall_mem_cons.mp hst
  obtain ⟨hv1, hst⟩ := List.forall_mem_cons.mp hst
  have this := k H ls locs hH hL hst hS hn hm
  simp only [List.map_cons, kc] at this ⊢
  refine lv_icmp_le hC.1 hC.2.1 hd ht (fun q => ?_) (fun q => ?_)
  · rw [if_pos (show kcnd .le a b = true from decide_eq_true ((kn_le hv1 hv0).mp q))] at this; exact this
  · rw [if_neg (show ¬ kcnd .le a b = true from fun z => q ((kn_le hv1 hv0).mpr (of_decide_eq_true z))), ho] at this; exact this
theorem kz_goto {t off : Int} (hC : kCx p s mid args meth cc c base ad cT D sc) (hd : decode (kaq c).2.1 (kofs c pc) = .ok (.goto off, 3)) (ht : (kofs c pc : Int) + off = (kofs c t.toNat : Int))
    (k : kZ p l e R s mid args below meth cc c base ad cT D n0 m0 Q t.toNat L st h) : kZ p l e R s mid args below meth cc c base ad cT D n0 m0 Q pc L st h := by
  intro H ls locs hH hL hst hS hn hm
  exact lv_goto hC.1 hC.2.1 hd ht (k H ls locs hH hL hst hS hn hm)
theorem kz_ifnull {t off : Int} {r : Option Nat} (hC : kCx p s mid args meth cc c base ad cT D sc) (hd : decode (kaq c).2.1 (kofs c pc) = .ok (.ifnull off, 3)) (ho : kofs c (pc + 1) = kofs c pc + 3) (ht : (kofs c pc : Int) + off = (kofs c t.toNat : Int))
    (k : kZ p l e R s mid args below meth cc c base ad cT D n0 m0 Q (if r = none then t.toNat else pc + 1) L st h) : kZ p l e R s mid args below meth cc c base ad cT D n0 m0 Q pc L (.inr (.inr (.inl r)) :: st) h := by
  intro H ls locs hH hL hst hS hn hm
  obtain ⟨-, hst⟩ := List.forall_mem_cons.mp hst
  have this := k H ls locs hH hL hst hS hn hm
  rcases r with _ | r
  · simp only [List.map_cons, kc, if_true] at this ⊢
    exact lv_ifnullN hC.1 hC.2.1 hd ht this
  · simp only [List.map_cons, kc, if_neg (show ¬ (some r = none) by simp)] at this ⊢
    rw [ho] at this; exact lv_ifnull hC.1 hC.2.1 hd this
theorem kz_ifnonnull {t off : Int} {r : Option Nat} (hC : kCx p s mid args meth cc c base ad cT D sc) (hd : decode (kaq c).2.1 (kofs c pc) = .ok (.ifnonnull off, 3)) (ho : kofs c (pc + 1) = kofs c pc + 3) (ht : (kofs c pc : Int) + off = (kofs c t.toNat : Int))
    (k : kZ p l e R s mid args below meth cc c base ad cT D n0 m0 Q (if r = none then pc + 1 else t.toNat) L st h) : kZ p l e R s mid args below meth cc c base ad cT D n0 m0 Q pc L (.inr (.inr (.inl r)) :: st) h := by
  intro H ls locs hH hL hst hS hn hm
  obtain ⟨-, hst⟩ := List.forall_mem_cons.mp hst
  have this := k H ls locs hH hL hst hS hn hm
  rcases r with _ | r
  · simp only [List.map_cons, kc, if_true] at this ⊢
    rw [ho] at this; exact lv_ifnonnullN hC.1 hC.2.1 hd this
  · simp only [List.map_cons, kc, if_neg (show ¬ (some r = none) by simp)] at this ⊢
    exact lv_ifnonnull hC.1 hC.2.1 hd ht this
end KS
