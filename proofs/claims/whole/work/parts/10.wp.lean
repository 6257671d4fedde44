/-! THE SMALL MACHINE's OWN RULES: from here on nothing speaks of the real machine -/
def kW (sc : List Int) (d : Nat) (cd : List Instr) (rk pc : Nat) (L : kLs) (st : List kV) (h : kH) (Q : Option kV → kH → Prop) : Prop := ∃ (n : Nat) (rv : Option kV) (h' : kH), kx kfk (ksx sc) kms n d cd rk pc L st h = some (rv, h') ∧ Q rv h'
/-- a method's contract: from these arguments and this heap it comes to this answer and this heap -/
def kR (sc : List Int) (d c : Nat) (vs : List kV) (h : kH) (rv : Option kV) (h' : kH) : Prop := kW sc d (kmq c).1 (kmq c).2.2.2.1 0 (kent vs (kmq c).2.1) [] h (fun r g => r = rv ∧ g = h')
theorem kx_mono {sc : List Int} : ∀ (n k d e : Nat) (cd : List Instr) (rk pc : Nat) (L : kLs) (st : List kV) (h : kH) (r : Option kV × kH), kx kfk (ksx sc) kms n d cd rk pc L st h = some r → kx kfk (ksx sc) kms (n + k) (d + e) cd rk pc L st h = some r := by
  intro n
  induction n with
  | zero => intro k d e cd rk pc L st h r hr; cases hr
  | succ n ih =>
    intro k d e cd rk pc L st h r hr
    rw [show n + 1 + k = (n + k) + 1 by omega, kx]
    rw [kx] at hr
    cases hget : cd[pc]? with
    | none => rw [hget] at hr; cases hr
    | some ins =>
      rw [hget] at hr
      dsimp only at hr ⊢
      cases hce : kcallee ins with
      | none =>
        rw [hce] at hr
        dsimp only at hr ⊢
        cases hre : kret rk ins st with
        | some rv2 => rw [hre] at hr; exact hr
        | none =>
          rw [hre] at hr
          dsimp only at hr ⊢
          cases hk : kst kfk (ksx sc) ins pc L st h with
          | none => rw [hk] at hr; cases hr
          | some q =>
            rw [hk] at hr
            exact ih k d e _ _ _ _ _ _ _ hr
      | some q =>
        rw [hce] at hr
        dsimp only at hr ⊢
        cases d with
        | zero => cases hr
        | succ d =>
          rw [show d + 1 + e = (d + e) + 1 by omega]
          cases hcall : kcall kms ins st h with
          | none => rw [hcall] at hr; cases hr
          | some q =>
            rw [hcall] at hr
            obtain ⟨c2, cd2, rk2, L2, rest⟩ := q
            dsimp only at hr ⊢
            cases hin : kx kfk (ksx sc) kms n d cd2 rk2 0 L2 [] h with
            | none => rw [hin] at hr; cases hr
            | some q =>
              rw [hin] at hr
              rw [ih k d e _ _ _ _ _ _ _ hin]
              dsimp only at hr ⊢
              have := ih k (d + 1) e _ _ _ _ _ _ _ hr
              rw [show d + 1 + e = (d + e) + 1 by omega] at this
              exact this
section KW
variable {sc : List Int} {d : Nat} {cd : List Instr} {rk pc : Nat} {L : kLs} {st : List kV} {h : kH} {Q : Option kV → kH → Prop}
theorem kW.mono {e : Nat} (hw : kW sc d cd rk pc L st h Q) : kW sc (d + e) cd rk pc L st h Q := by
  obtain ⟨n, rv, h', h1, h2⟩ := hw
  exact ⟨n, rv, h', kx_mono n 0 d e _ _ _ _ _ _ _ h1, h2⟩
theorem kW.post {Q' : Option kV → kH → Prop} (hw : kW sc d cd rk pc L st h Q) (hq : ∀ r g, Q r g → Q' r g) : kW sc d cd rk pc L st h Q' := by
  obtain ⟨n, rv, h', h1, h2⟩ := hw
  exact ⟨n, rv, h', h1, hq _ _ h2⟩
theorem kw_step {ins : Instr} {pc' : Nat} {L' : kLs} {st' : List kV} {h' : kH} (hc : cd[pc]? = some ins) (hn : kcallee ins = none) (hr : kret rk ins st = none) (hs : kst kfk (ksx sc) ins pc L st h = some (pc', L', st', h')) (k : kW sc d cd rk pc' L' st' h' Q) : kW sc d cd rk pc L st h Q := by
  obtain ⟨n, rv, g, h1, h2⟩ := k
  refine ⟨n + 1, rv, g, ?_, h2⟩
  rw [kx, hc]
  dsimp only
  rw [hn]
  dsimp only
  rw [hr]
  dsimp only
  rw [hs]
  exact h1
theorem kw_ret {ins : Instr} {rv : Option kV} (hc : cd[pc]? = some ins) (hn : kcallee ins = none) (hr : kret rk ins st = some rv) (hq : Q rv h) : kW sc d cd rk pc L st h Q := by
  refine ⟨1, rv, h, ?_, hq⟩
  rw [kx, hc]
  dsimp only
  rw [hn]
  dsimp only
  rw [hr]
/-- a call of a method that has a contract -/
theorem kw_call {ins : Instr} {kd c : Nat} {vs rest : List kV} {rv : Option kV} {h1 : kH} {e : Nat} (hc : cd[pc]? = some ins) (hn : kcallee ins = some (kd, c)) (hl : c < 295) (hst : st = vs.reverse ++ rest) (hna : vs.length = (kmq c).2.2.1) (hml : (kargs vs).length ≤ (kmq c).2.1) (hwt : kwts rest ≤ 8) (hk0 : kd = 0 → (kmq c).2.2.2.2 = 1000) (hk1 : kd ≠ 0 → (kmq c).2.2.2.2 ≠ 1000 ∧ krcv h (kmq c).2.2.2.2 vs.head? = true) (hk2 : kd = 1 → (kmq c).2.2.2.1 = 0)
    (hr : kR sc e c vs h rv h1) (hd : e ≤ d) (k : kW sc (d + 1) cd rk (pc + 1) L (rv.toList ++ rest) h1 Q) : kW sc (d + 1) cd rk pc L st h Q := by
  obtain ⟨n1, rv1, g1, a1, ⟨rfl, rfl⟩⟩ := hr
  obtain ⟨n2, rv2, g2, b1, b2⟩ := k
  refine ⟨n1 + n2 + 1, rv2, g2, ?_, b2⟩
  rw [kx, hc]
  dsimp only
  rw [hn]
  dsimp only
  have hms : kms c = some (kmq c) := by
    unfold kms kmq
    rw [List.getD_eq_getElem?_getD, List.getElem?_eq_getElem (by rw [kAll_len.2]; exact hl)]
    rfl
  have hcall : kcall kms ins st h = some (c, (kmq c).1, (kmq c).2.2.2.1, kent vs (kmq c).2.1, rest) := by
    unfold kcall
    rw [hn]
    dsimp only
    rw [hms]
    dsimp only
    have e1 : (st.take (kmq c).2.2.1).reverse = vs := by
      rw [hst, ← hna, ← List.length_reverse (as := vs), List.take_left, List.reverse_reverse]
    have e2 : st.drop (kmq c).2.2.1 = rest := by
      rw [hst, ← hna, ← List.length_reverse (as := vs), List.drop_left]
    rw [e1, e2, if_pos]
    refine ⟨?_, hml, hwt, hk0, hk1, hk2⟩
    rw [hst, ← hna]
    simp
  rw [hcall]
  dsimp only
  have q1 := kx_mono n1 n2 e (d - e) _ _ _ _ _ _ _ a1
  rw [show e + (d - e) = d by omega] at q1
  rw [q1]
  dsimp only
  have q2 := kx_mono n2 n1 (d + 1) 0 _ _ _ _ _ _ _ b1
  rw [show n2 + n1 = n1 + n2 by omega] at q2
  exact q2
/-! branches -/
theorem kw_goto {t : Int} {t' : Nat} (hc : cd[pc]? = some (.goto t)) (ht : t.toNat = t') (k : kW sc d cd rk t' L st h Q) : kW sc d cd rk pc L st h Q := by
  subst ht
  exact kw_step hc rfl rfl rfl k
theorem kw_icmp {c : Jvm.ClassFile.Cond} {t a b : Int} {t' : Nat} (hc : cd[pc]? = some (.if_icmp c t)) (ht : t.toNat = t') (kt : kcnd c a b = true → kW sc d cd rk t' L st h Q) (kf : kcnd c a b = false → kW sc d cd rk (pc + 1) L st h Q) : kW sc d cd rk pc L (.inl b :: .inl a :: st) h Q := by
  subst ht
  cases hq : kcnd c a b with
  | true => exact kw_step hc rfl rfl (by show some (if kcnd c a b = true then t.toNat else pc + 1, L, st, h) = _; rw [hq]; rfl) (kt hq)
  | false => exact kw_step hc rfl rfl (by show some (if kcnd c a b = true then t.toNat else pc + 1, L, st, h) = _; rw [hq]; rfl) (kf hq)
theorem kw_if {c : Jvm.ClassFile.Cond} {t a : Int} {t' : Nat} (hc : cd[pc]? = some (.ifCond c t)) (ht : t.toNat = t') (kt : kcnd c a 0 = true → kW sc d cd rk t' L st h Q) (kf : kcnd c a 0 = false → kW sc d cd rk (pc + 1) L st h Q) : kW sc d cd rk pc L (.inl a :: st) h Q := by
  subst ht
  cases hq : kcnd c a 0 with
  | true => exact kw_step hc rfl rfl (by show some (if kcnd c a 0 = true then t.toNat else pc + 1, L, st, h) = _; rw [hq]; rfl) (kt hq)
  | false => exact kw_step hc rfl rfl (by show some (if kcnd c a 0 = true then t.toNat else pc + 1, L, st, h) = _; rw [hq]; rfl) (kf hq)
theorem kw_icmp_eq {t a b : Int} {t' : Nat} (hc : cd[pc]? = some (.if_icmp .eq t)) (ht : t.toNat = t') (kt : a = b → kW sc d cd rk t' L st h Q) (kf : ¬ a = b → kW sc d cd rk (pc + 1) L st h Q) : kW sc d cd rk pc L (.inl b :: .inl a :: st) h Q := kw_icmp hc ht (fun q => kt (of_decide_eq_true q)) (fun q => kf (of_decide_eq_false q))
theorem kw_icmp_ne {t a b : Int} {t' : Nat} (hc : cd[pc]? = some (.if_icmp .ne t)) (ht : t.toNat = t') (kt : ¬ a = b → kW sc d cd rk t' L st h Q) (kf : a = b → kW sc d cd rk (pc + 1) L st h Q) : kW sc d cd rk pc L (.inl b :: .inl a :: st) h Q := kw_icmp hc ht (fun q => kt (by simpa [kcnd] using q)) (fun q => kf (by simpa [kcnd] using q))
theorem kw_icmp_lt {t a b : Int} {t' : Nat} (hc : cd[pc]? = some (.if_icmp .lt t)) (ht : t.toNat = t') (kt : a < b → kW sc d cd rk t' L st h Q) (kf : ¬ a < b → kW sc d cd rk (pc + 1) L st h Q) : kW sc d cd rk pc L (.inl b :: .inl a :: st) h Q := kw_icmp hc ht (fun q => kt (of_decide_eq_true q)) (fun q => kf (of_decide_eq_false q))
theorem kw_icmp_ge {t a b : Int} {t' : Nat} (hc : cd[pc]? = some (.if_icmp .ge t)) (ht : t.toNat = t') (kt : b ≤ a → kW sc d cd rk t' L st h Q) (kf : ¬ b ≤ a → kW sc d cd rk (pc + 1) L st h Q) : kW sc d cd rk pc L (.inl b :: .inl a :: st) h Q := kw_icmp hc ht (fun q => kt (of_decide_eq_true q)) (fun q => kf (of_decide_eq_false q))
theorem kw_icmp_gt {t a b : Int} {t' : Nat} (hc : cd[pc]? = some (.if_icmp .gt t)) (ht : t.toNat = t') (kt : b < a → kW sc d cd rk t' L st h Q) (kf : ¬ b < a → kW sc d cd rk (pc + 1) L st h Q) : kW sc d cd rk pc L (.inl b :: .inl a :: st) h Q := kw_icmp hc ht (fun q => kt (of_decide_eq_true q)) (fun q => kf (of_decide_eq_false q))
theorem kw_icmp_le {t a b : Int} {t' : Nat} (hc : cd[pc]? = some (.if_icmp .le t)) (ht : t.toNat = t') (kt : a ≤ b → kW sc d cd rk t' L st h Q) (kf : ¬ a ≤ b → kW sc d cd rk (pc + 1) L st h Q) : kW sc d cd rk pc L (.inl b :: .inl a :: st) h Q := kw_icmp hc ht (fun q => kt (of_decide_eq_true q)) (fun q => kf (of_decide_eq_false q))
theorem kw_if_eq {t a : Int} {t' : Nat} (hc : cd[pc]? = some (.ifCond .eq t)) (ht : t.toNat = t') (kt : a = 0 → kW sc d cd rk t' L st h Q) (kf : ¬ a = 0 → kW sc d cd rk (pc + 1) L st h Q) : kW sc d cd rk pc L (.inl a :: st) h Q := kw_if hc ht (fun q => kt (of_decide_eq_true q)) (fun q => kf (of_decide_eq_false q))
theorem kw_if_ne {t a : Int} {t' : Nat} (hc : cd[pc]? = some (.ifCond .ne t)) (ht : t.toNat = t') (kt : ¬ a = 0 → kW sc d cd rk t' L st h Q) (kf : a = 0 → kW sc d cd rk (pc + 1) L st h Q) : kW sc d cd rk pc L (.inl a :: st) h Q := kw_if hc ht (fun q => kt (by simpa [kcnd] using q)) (fun q => kf (by simpa [kcnd] using q))
theorem kw_if_lt {t a : Int} {t' : Nat} (hc : cd[pc]? = some (.ifCond .lt t)) (ht : t.toNat = t') (kt : a < 0 → kW sc d cd rk t' L st h Q) (kf : ¬ a < 0 → kW sc d cd rk (pc + 1) L st h Q) : kW sc d cd rk pc L (.inl a :: st) h Q := kw_if hc ht (fun q => kt (of_decide_eq_true q)) (fun q => kf (of_decide_eq_false q))
theorem kw_if_ge {t a : Int} {t' : Nat} (hc : cd[pc]? = some (.ifCond .ge t)) (ht : t.toNat = t') (kt : 0 ≤ a → kW sc d cd rk t' L st h Q) (kf : ¬ 0 ≤ a → kW sc d cd rk (pc + 1) L st h Q) : kW sc d cd rk pc L (.inl a :: st) h Q := kw_if hc ht (fun q => kt (of_decide_eq_true q)) (fun q => kf (of_decide_eq_false q))
theorem kw_if_gt {t a : Int} {t' : Nat} (hc : cd[pc]? = some (.ifCond .gt t)) (ht : t.toNat = t') (kt : 0 < a → kW sc d cd rk t' L st h Q) (kf : ¬ 0 < a → kW sc d cd rk (pc + 1) L st h Q) : kW sc d cd rk pc L (.inl a :: st) h Q := kw_if hc ht (fun q => kt (of_decide_eq_true q)) (fun q => kf (of_decide_eq_false q))
theorem kw_if_le {t a : Int} {t' : Nat} (hc : cd[pc]? = some (.ifCond .le t)) (ht : t.toNat = t') (kt : a ≤ 0 → kW sc d cd rk t' L st h Q) (kf : ¬ a ≤ 0 → kW sc d cd rk (pc + 1) L st h Q) : kW sc d cd rk pc L (.inl a :: st) h Q := kw_if hc ht (fun q => kt (of_decide_eq_true q)) (fun q => kf (of_decide_eq_false q))
/-! the heap -/
theorem kw_get {a q : Nat} {fs : List kV} {v : kV} (hc : cd[pc]? = some (.getfield q)) (ha : h.2.2 a = some (.inr (.inr (q / 100, fs)))) (hv : fs[q % 100]? = some v) (k : kW sc d cd rk (pc + 1) L (v :: st) h Q) : kW sc d cd rk pc L (.inr (.inr (.inl (some a))) :: st) h Q := by
  refine kw_step hc rfl rfl ?_ k
  show (match h.2.2 a with
    | some (.inr (.inr (ci, fs))) => if ci = q / 100 then match fs[q % 100]? with
        | some v => some (pc + 1, L, v :: st, h)
        | none => none
      else none
    | _ => none) = _
  rw [ha]
  dsimp only
  rw [if_pos rfl, hv]
theorem kw_put {a q : Nat} {fs : List kV} {v : kV} (hc : cd[pc]? = some (.putfield q)) (ha : h.2.2 a = some (.inr (.inr (q / 100, fs)))) (hl : q % 100 < fs.length) (hf : kfit ((kfk (q / 100)).getD (q % 100) 9) v = true) (k : kW sc d cd rk (pc + 1) L st (kput h a (.inr (.inr (q / 100, fs.set (q % 100) v)))) Q) : kW sc d cd rk pc L (v :: .inr (.inr (.inl (some a))) :: st) h Q := by
  refine kw_step hc rfl rfl ?_ k
  show (match h.2.2 a with
    | some (.inr (.inr (ci, fs))) => if ci = q / 100 ∧ q % 100 < fs.length ∧ kfit ((kfk (q / 100)).getD (q % 100) 9) v = true then some (pc + 1, L, st, kput h a (.inr (.inr (ci, fs.set (q % 100) v)))) else none
    | _ => none) = _
  rw [ha]
  dsimp only
  rw [if_pos ⟨rfl, hl, hf⟩]
theorem kw_iald {a n : Nat} {f : Nat → Int} {i : Int} (hc : cd[pc]? = some .iaload) (ha : h.2.2 a = some (.inl (0, n, f))) (h0 : 0 ≤ i) (h1 : i < n) {j : Nat} (hj : i.toNat = j) (k : kW sc d cd rk (pc + 1) L (.inl (f j) :: st) h Q) : kW sc d cd rk pc L (.inl i :: .inr (.inr (.inl (some a))) :: st) h Q := by
  subst hj
  refine kw_step hc rfl rfl ?_ k
  unfold kst
  dsimp only
  rw [ha]
  exact if_pos ⟨h0, h1⟩
theorem kw_bald {a n : Nat} {f : Nat → Int} {i : Int} (hc : cd[pc]? = some .baload) (ha : h.2.2 a = some (.inl (1, n, f))) (h0 : 0 ≤ i) (h1 : i < n) {j : Nat} (hj : i.toNat = j) (k : kW sc d cd rk (pc + 1) L (.inl (f j) :: st) h Q) : kW sc d cd rk pc L (.inl i :: .inr (.inr (.inl (some a))) :: st) h Q := by
  subst hj
  refine kw_step hc rfl rfl ?_ k
  unfold kst
  dsimp only
  rw [ha]
  exact if_pos ⟨h0, h1⟩
theorem kw_zald {a n : Nat} {f : Nat → Int} {i : Int} (hc : cd[pc]? = some .baload) (ha : h.2.2 a = some (.inl (4, n, f))) (h0 : 0 ≤ i) (h1 : i < n) {j : Nat} (hj : i.toNat = j) (k : kW sc d cd rk (pc + 1) L (.inl (f j) :: st) h Q) : kW sc d cd rk pc L (.inl i :: .inr (.inr (.inl (some a))) :: st) h Q := by
  subst hj
  refine kw_step hc rfl rfl ?_ k
  unfold kst
  dsimp only
  rw [ha]
  exact if_pos ⟨h0, h1⟩
theorem kw_sald {a n : Nat} {f : Nat → Int} {i : Int} (hc : cd[pc]? = some .saload) (ha : h.2.2 a = some (.inl (2, n, f))) (h0 : 0 ≤ i) (h1 : i < n) {j : Nat} (hj : i.toNat = j) (k : kW sc d cd rk (pc + 1) L (.inl (f j) :: st) h Q) : kW sc d cd rk pc L (.inl i :: .inr (.inr (.inl (some a))) :: st) h Q := by
  subst hj
  refine kw_step hc rfl rfl ?_ k
  unfold kst
  dsimp only
  rw [ha]
  exact if_pos ⟨h0, h1⟩
theorem kw_lald {a n : Nat} {f : Nat → Int} {i : Int} (hc : cd[pc]? = some .laload) (ha : h.2.2 a = some (.inl (3, n, f))) (h0 : 0 ≤ i) (h1 : i < n) {j : Nat} (hj : i.toNat = j) (k : kW sc d cd rk (pc + 1) L (.inr (.inl (f j)) :: st) h Q) : kW sc d cd rk pc L (.inl i :: .inr (.inr (.inl (some a))) :: st) h Q := by
  subst hj
  refine kw_step hc rfl rfl ?_ k
  unfold kst
  dsimp only
  rw [ha]
  exact if_pos ⟨h0, h1⟩
theorem kw_aald {a n ci : Nat} {f : Nat → Option Nat} {i : Int} (hc : cd[pc]? = some .aaload) (ha : h.2.2 a = some (.inr (.inl (ci, n, f)))) (h0 : 0 ≤ i) (h1 : i < n) {j : Nat} (hj : i.toNat = j) (hci : ci = 4 ∨ ci = 7) (k : kW sc d cd rk (pc + 1) L (.inr (.inr (.inl (f j))) :: st) h Q) : kW sc d cd rk pc L (.inl i :: .inr (.inr (.inl (some a))) :: st) h Q := by
  subst hj
  refine kw_step hc rfl rfl ?_ k
  unfold kst
  dsimp only
  rw [ha]
  exact if_pos ⟨h0, h1, hci⟩
theorem kw_iast {a n : Nat} {f : Nat → Int} {i x : Int} (hc : cd[pc]? = some .iastore) (ha : h.2.2 a = some (.inl (0, n, f))) (h0 : 0 ≤ i) (h1 : i < n) {j : Nat} (hj : i.toNat = j) (k : kW sc d cd rk (pc + 1) L st (kput h a (.inl (0, n, kup f j x))) Q) : kW sc d cd rk pc L (.inl x :: .inl i :: .inr (.inr (.inl (some a))) :: st) h Q := by
  subst hj
  refine kw_step hc rfl rfl ?_ k
  unfold kst
  dsimp only
  rw [ha]
  exact if_pos ⟨h0, h1⟩
theorem kw_bast {a n : Nat} {f : Nat → Int} {i x : Int} (hc : cd[pc]? = some .bastore) (ha : h.2.2 a = some (.inl (1, n, f))) (h0 : 0 ≤ i) (h1 : i < n) {j : Nat} (hj : i.toNat = j) (k : kW sc d cd rk (pc + 1) L st (kput h a (.inl (1, n, kup f j (ki2b x)))) Q) : kW sc d cd rk pc L (.inl x :: .inl i :: .inr (.inr (.inl (some a))) :: st) h Q := by
  subst hj
  refine kw_step hc rfl rfl ?_ k
  unfold kst
  dsimp only
  rw [ha]
  exact if_pos ⟨h0, h1⟩
theorem kw_zast {a n : Nat} {f : Nat → Int} {i x : Int} (hc : cd[pc]? = some .bastore) (ha : h.2.2 a = some (.inl (4, n, f))) (h0 : 0 ≤ i) (h1 : i < n) {j : Nat} (hj : i.toNat = j) (hx : x = 0 ∨ x = 1) (k : kW sc d cd rk (pc + 1) L st (kput h a (.inl (4, n, kup f j x))) Q) : kW sc d cd rk pc L (.inl x :: .inl i :: .inr (.inr (.inl (some a))) :: st) h Q := by
  subst hj
  refine kw_step hc rfl rfl ?_ k
  unfold kst
  dsimp only
  rw [ha]
  exact if_pos ⟨h0, h1, hx⟩
theorem kw_sast {a n : Nat} {f : Nat → Int} {i x : Int} (hc : cd[pc]? = some .sastore) (ha : h.2.2 a = some (.inl (2, n, f))) (h0 : 0 ≤ i) (h1 : i < n) {j : Nat} (hj : i.toNat = j) (k : kW sc d cd rk (pc + 1) L st (kput h a (.inl (2, n, kup f j (ki2s x)))) Q) : kW sc d cd rk pc L (.inl x :: .inl i :: .inr (.inr (.inl (some a))) :: st) h Q := by
  subst hj
  refine kw_step hc rfl rfl ?_ k
  unfold kst
  dsimp only
  rw [ha]
  exact if_pos ⟨h0, h1⟩
theorem kw_last {a n : Nat} {f : Nat → Int} {i x : Int} (hc : cd[pc]? = some .lastore) (ha : h.2.2 a = some (.inl (3, n, f))) (h0 : 0 ≤ i) (h1 : i < n) {j : Nat} (hj : i.toNat = j) (k : kW sc d cd rk (pc + 1) L st (kput h a (.inl (3, n, kup f j x))) Q) : kW sc d cd rk pc L (.inr (.inl x) :: .inl i :: .inr (.inr (.inl (some a))) :: st) h Q := by
  subst hj
  refine kw_step hc rfl rfl ?_ k
  unfold kst
  dsimp only
  rw [ha]
  exact if_pos ⟨h0, h1⟩
theorem kw_aast {a b n ci : Nat} {f : Nat → Option Nat} {fs : List kV} {i : Int} (hc : cd[pc]? = some .aastore) (ha : h.2.2 a = some (.inr (.inl (ci, n, f)))) (hb : h.2.2 b = some (.inr (.inr (ci, fs)))) (h0 : 0 ≤ i) (h1 : i < n) {j : Nat} (hj : i.toNat = j) (hci : ci = 4 ∨ ci = 7) (k : kW sc d cd rk (pc + 1) L st (kput h a (.inr (.inl (ci, n, kup f j (some b))))) Q) : kW sc d cd rk pc L (.inr (.inr (.inl (some b))) :: .inl i :: .inr (.inr (.inl (some a))) :: st) h Q := by
  subst hj
  refine kw_step hc rfl rfl ?_ k
  unfold kst
  dsimp only
  rw [ha, hb]
  exact if_pos ⟨h0, h1, rfl, hci⟩
theorem kw_alen {a n t : Nat} {f : Nat → Int} (hc : cd[pc]? = some .arraylength) (ha : h.2.2 a = some (.inl (t, n, f))) (ht : t ≤ 4) (k : kW sc d cd rk (pc + 1) L (.inl n :: st) h Q) : kW sc d cd rk pc L (.inr (.inr (.inl (some a))) :: st) h Q := by
  refine kw_step hc rfl rfl ?_ k
  unfold kst
  dsimp only
  rw [ha]
  exact if_pos ht
theorem kw_idiv {a b : Int} (hc : cd[pc]? = some .idiv) (hb : b ≠ 0) (k : kW sc d cd rk (pc + 1) L (.inl (kdiv a b) :: st) h Q) : kW sc d cd rk pc L (.inl b :: .inl a :: st) h Q :=
  kw_step hc rfl rfl (by unfold kst; dsimp only; rw [if_neg hb]) k
theorem kw_irem {a b : Int} (hc : cd[pc]? = some .irem) (hb : b ≠ 0) (k : kW sc d cd rk (pc + 1) L (.inl (krem a b) :: st) h Q) : kW sc d cd rk pc L (.inl b :: .inl a :: st) h Q :=
  kw_step hc rfl rfl (by unfold kst; dsimp only; rw [if_neg hb]) k
theorem kw_ldiv {a b : Int} (hc : cd[pc]? = some .ldiv) (hb : b ≠ 0) (k : kW sc d cd rk (pc + 1) L (.inr (.inl (kldiv a b)) :: st) h Q) : kW sc d cd rk pc L (.inr (.inl b) :: .inr (.inl a) :: st) h Q :=
  kw_step hc rfl rfl (by unfold kst; dsimp only; rw [if_neg hb]) k
theorem kw_lrem {a b : Int} (hc : cd[pc]? = some .lrem) (hb : b ≠ 0) (k : kW sc d cd rk (pc + 1) L (.inr (.inl (klrem a b)) :: st) h Q) : kW sc d cd rk pc L (.inr (.inl b) :: .inr (.inl a) :: st) h Q :=
  kw_step hc rfl rfl (by unfold kst; dsimp only; rw [if_neg hb]) k
end KW
