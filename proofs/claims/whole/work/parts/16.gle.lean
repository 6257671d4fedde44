theorem kst_pas {fk : Nat → List Nat} {sx : Nat → List Int} {ins : Instr} {pc pc' : Nat} {L L1 : kLs} {st st' : List kV} {h h' : kH} (hp : kloc ins = false) (hk : kst fk sx ins pc L st h = some (pc', L1, st', h')) : L1 = L ∧ ∀ L', kst fk sx ins pc L' st h = some (pc', L', st', h') := by
  cases ins <;> first
    | (cases hp; done)
    | (cases hk; done)
    | (unfold kst at hk ⊢
       dsimp only at hk ⊢
       repeat' split at hk
       all_goals first
         | (cases hk; done)
         | (cases hk; refine ⟨rfl, fun L' => ?_⟩; first | rfl | (simp_all; done) | (simp_all; intro hh; omega)))
theorem kst_le {fk : Nat → List Nat} {sx : Nat → List Int} {ins : Instr} {pc pc' : Nat} {L L1 L' : kLs} {st st' : List kV} {h h' : kH} (hl : kLe L L') (hk : kst fk sx ins pc L st h = some (pc', L1, st', h')) : ∃ L2, kst fk sx ins pc L' st h = some (pc', L2, st', h') ∧ kLe L1 L2 := by
  cases hp : kloc ins with
  | false =>
    obtain ⟨rfl, q⟩ := kst_pas hp hk
    exact ⟨L', q L', hl⟩
  | true =>
    cases ins <;> first | (cases hp; done) | skip
    case iload i =>
      unfold kst at hk ⊢
      dsimp only at hk ⊢
      split at hk
      · rename_i e
        cases hk
        rw [kLe_get hl e]
        exact ⟨_, rfl, hl⟩
      · cases hk
    case lload i =>
      unfold kst at hk ⊢
      dsimp only at hk ⊢
      split at hk
      · rename_i e
        cases hk
        rw [kLe_get hl e]
        exact ⟨_, rfl, hl⟩
      · cases hk
    case aload i =>
      unfold kst at hk ⊢
      dsimp only at hk ⊢
      split at hk
      · rename_i e
        cases hk
        rw [kLe_get hl e]
        exact ⟨_, rfl, hl⟩
      · cases hk
    case iinc i k =>
      unfold kst at hk ⊢
      dsimp only at hk ⊢
      split at hk
      · rename_i e
        cases hk
        rw [kLe_get hl e]
        exact ⟨_, rfl, kLe_set _ _ (kLe_clr _ hl)⟩
      · cases hk
    case istore i =>
      unfold kst at hk ⊢
      dsimp only at hk ⊢
      split at hk
      · split at hk
        · rename_i c
          cases hk
          rw [← kLe_len hl, if_pos c]
          exact ⟨_, rfl, kLe_set _ _ (kLe_clr _ hl)⟩
        · cases hk
      · cases hk
    case astore i =>
      unfold kst at hk ⊢
      dsimp only at hk ⊢
      split at hk
      · split at hk
        · rename_i c
          cases hk
          rw [← kLe_len hl, if_pos c]
          exact ⟨_, rfl, kLe_set _ _ (kLe_clr _ hl)⟩
        · cases hk
      · cases hk
    case lstore i =>
      unfold kst at hk ⊢
      dsimp only at hk ⊢
      split at hk
      · split at hk
        · rename_i c
          cases hk
          rw [← kLe_len hl, if_pos c]
          exact ⟨_, rfl, kLe_set _ _ (kLe_set _ _ (kLe_clr _ hl))⟩
        · cases hk
      · cases hk
theorem kx_le {sc : List Int} : ∀ (n d : Nat) (cd : List Instr) (rk pc : Nat) (L L' : kLs) (st : List kV) (h : kH) (r : Option kV × kH), kLe L L' → kx kfk (ksx sc) kms n d cd rk pc L st h = some r → kx kfk (ksx sc) kms n d cd rk pc L' st h = some r := by
  intro n
  induction n with
  | zero => intro d cd rk pc L L' st h r hl hr; cases hr
  | succ n ih =>
    intro d cd rk pc L L' st h r hl hr
    rw [kx] at hr ⊢
    cases hget : cd[pc]? with
    | none => rw [hget] at hr; cases hr
    | some ins =>
      rw [hget] at hr
      dsimp only at hr ⊢
      cases hce : kcallee ins with
      | none =>
        rw [hce] at hr
        dsimp only at hr ⊢
        cases hre : kret rk ins st with
        | some rv2 => rw [hre] at hr; exact hr
        | none =>
          rw [hre] at hr
          dsimp only at hr ⊢
          cases hk : kst kfk (ksx sc) ins pc L st h with
          | none => rw [hk] at hr; cases hr
          | some q =>
            rw [hk] at hr
            obtain ⟨pc', L1, st', h'⟩ := q
            obtain ⟨L2, e2, l2⟩ := kst_le hl hk
            rw [e2]
            exact ih _ _ _ _ _ _ _ _ _ l2 hr
      | some q =>
        rw [hce] at hr
        dsimp only at hr ⊢
        cases d with
        | zero => cases hr
        | succ d =>
          cases hcall : kcall kms ins st h with
          | none => rw [hcall] at hr; cases hr
          | some q =>
            rw [hcall] at hr
            obtain ⟨c2, cd2, rk2, L2, rest⟩ := q
            dsimp only at hr ⊢
            cases hin : kx kfk (ksx sc) kms n d cd2 rk2 0 L2 [] h with
            | none => rw [hin] at hr; cases hr
            | some q =>
              rw [hin] at hr
              dsimp only at hr ⊢
              exact ih _ _ _ _ _ _ _ _ _ hl hr
section KW
variable {sc : List Int} {d : Nat} {cd : List Instr} {rk pc : Nat} {L : kLs} {st : List kV} {Q : Option kV → kH → Prop} {s s2 : kM}
theorem kW_le {h : kH} {L' : kLs} (hl : kLe L' L) (k : kW sc d cd rk pc L' st h Q) : kW sc d cd rk pc L st h Q := by
  obtain ⟨n, rv, g, h1, h2⟩ := k
  exact ⟨n, rv, g, kx_le _ _ _ _ _ _ _ _ _ _ hl h1, h2⟩
theorem kw_iastH {a n j : Nat} {i x : Int} (hc : cd[pc]? = some .iastore) (ht : ktab a = some (0, n)) (h0 : 0 ≤ i) (h1 : i < n) (hj : i.toNat = j) (e : s2 = gU s a j x) (k : kW sc d cd rk (pc + 1) L st (hH s2) Q) : kW sc d cd rk pc L (.inl x :: .inl i :: .inr (.inr (.inl (some a))) :: st) (hH s) Q :=
  kw_iast hc (hH_A ht) h0 h1 hj (by rw [hH_pA ht]; rw [e] at k; exact k)
theorem kw_bastH {a n j : Nat} {i x : Int} (hc : cd[pc]? = some .bastore) (ht : ktab a = some (1, n)) (h0 : 0 ≤ i) (h1 : i < n) (hj : i.toNat = j) (e : s2 = gU s a j (ki2b x)) (k : kW sc d cd rk (pc + 1) L st (hH s2) Q) : kW sc d cd rk pc L (.inl x :: .inl i :: .inr (.inr (.inl (some a))) :: st) (hH s) Q :=
  kw_bast hc (hH_A ht) h0 h1 hj (by rw [hH_pA ht]; rw [e] at k; exact k)
theorem kw_sastH {a n j : Nat} {i x : Int} (hc : cd[pc]? = some .sastore) (ht : ktab a = some (2, n)) (h0 : 0 ≤ i) (h1 : i < n) (hj : i.toNat = j) (e : s2 = gU s a j (ki2s x)) (k : kW sc d cd rk (pc + 1) L st (hH s2) Q) : kW sc d cd rk pc L (.inl x :: .inl i :: .inr (.inr (.inl (some a))) :: st) (hH s) Q :=
  kw_sast hc (hH_A ht) h0 h1 hj (by rw [hH_pA ht]; rw [e] at k; exact k)
theorem kw_lastH {a n j : Nat} {i x : Int} (hc : cd[pc]? = some .lastore) (ht : ktab a = some (3, n)) (h0 : 0 ≤ i) (h1 : i < n) (hj : i.toNat = j) (e : s2 = gU s a j x) (k : kW sc d cd rk (pc + 1) L st (hH s2) Q) : kW sc d cd rk pc L (.inr (.inl x) :: .inl i :: .inr (.inr (.inl (some a))) :: st) (hH s) Q :=
  kw_last hc (hH_A ht) h0 h1 hj (by rw [hH_pA ht]; rw [e] at k; exact k)
theorem kw_zastH {a n j : Nat} {i x : Int} (hc : cd[pc]? = some .bastore) (ht : ktab a = some (4, n)) (h0 : 0 ≤ i) (h1 : i < n) (hj : i.toNat = j) (hx : x = 0 ∨ x = 1) (e : s2 = gU s a j x) (k : kW sc d cd rk (pc + 1) L st (hH s2) Q) : kW sc d cd rk pc L (.inl x :: .inl i :: .inr (.inr (.inl (some a))) :: st) (hH s) Q :=
  kw_zast hc (hH_A ht) h0 h1 hj hx (by rw [hH_pA ht]; rw [e] at k; exact k)
theorem kw_putH {a q i : Nat} {g : (Nat → Int) → kE} {fs : List kV} {v : kV} {x : Int} (hc : cd[pc]? = some (.putfield q)) (ht : kotab a = some g) (hi : q % 100 = i) (e1 : g (s a) = .inr (.inr (q / 100, fs))) (e2 : g (kup (s a) i x) = .inr (.inr (q / 100, fs.set (q % 100) v))) (hl : q % 100 < fs.length) (hf : kfit ((kfk (q / 100)).getD (q % 100) 9) v = true) (e : s2 = gU s a i x) (k : kW sc d cd rk (pc + 1) L st (hH s2) Q) : kW sc d cd rk pc L (v :: .inr (.inr (.inl (some a))) :: st) (hH s) Q := by
  refine kw_put hc (by rw [hH_O ht, e1]) hl hf ?_
  rw [← e2, hH_pO ht]
  rw [e] at k
  exact k
theorem kw_acpH {a b na nb : Nat} {sp dp n : Int} (hc : cd[pc]? = some .fadd) (ha : ktab a = some (0, na)) (hb : ktab b = some (0, nb)) (hn : 0 ≤ n ∧ 0 ≤ dp ∧ 0 ≤ sp ∧ sp + n ≤ nb ∧ dp + n ≤ na ∧ kwts st ≤ 8) (e : s2 = gA s a (kcpy (s b) (s a) sp.toNat dp.toNat n.toNat)) (k : kW sc d cd rk (pc + 1) L st (hH s2) Q) : kW sc d cd rk pc L (.inl n :: .inl dp :: .inr (.inr (.inl (some a))) :: .inl sp :: .inr (.inr (.inl (some b))) :: st) (hH s) Q := by
  refine kw_step hc rfl rfl ?_ k
  unfold kst
  dsimp only
  rw [hH_A ha, hH_A hb]
  show (if _ then _ else _) = _
  rw [if_pos hn, hH_pA ha, e]
/-! compares of longs, switches, texts, RULES -/
theorem kw_lc {h : kH} {c : Jvm.ClassFile.Cond} {t a b : Int} {t' : Nat} {P : Prop} (hc : cd[pc]? = some .lcmp) (hc2 : cd[pc + 1]? = some (.ifCond c t)) (ht : t.toNat = t') (hp : kcnd c (klcmp a b) 0 = true ↔ P) (kt : P → kW sc d cd rk t' L st h Q) (kf : ¬ P → kW sc d cd rk (pc + 2) L st h Q) : kW sc d cd rk pc L (.inr (.inl b) :: .inr (.inl a) :: st) h Q :=
  kw_step hc rfl rfl rfl (kw_if hc2 ht (fun q => kt (hp.mp q)) (fun q => kf (fun z => by rw [hp.mpr z] at q; cases q)))
theorem kw_lc_lt {h : kH} {t a b : Int} {t' : Nat} (hc : cd[pc]? = some .lcmp) (hc2 : cd[pc + 1]? = some (.ifCond .lt t)) (ht : t.toNat = t') (kt : a < b → kW sc d cd rk t' L st h Q) (kf : ¬ a < b → kW sc d cd rk (pc + 2) L st h Q) : kW sc d cd rk pc L (.inr (.inl b) :: .inr (.inl a) :: st) h Q := kw_lc hc hc2 ht (by simp [kcnd, klc_lt]) kt kf
theorem kw_lc_ge {h : kH} {t a b : Int} {t' : Nat} (hc : cd[pc]? = some .lcmp) (hc2 : cd[pc + 1]? = some (.ifCond .ge t)) (ht : t.toNat = t') (kt : b ≤ a → kW sc d cd rk t' L st h Q) (kf : ¬ b ≤ a → kW sc d cd rk (pc + 2) L st h Q) : kW sc d cd rk pc L (.inr (.inl b) :: .inr (.inl a) :: st) h Q := kw_lc hc hc2 ht (by simp [kcnd, klc_ge]) kt kf
theorem kw_lc_gt {h : kH} {t a b : Int} {t' : Nat} (hc : cd[pc]? = some .lcmp) (hc2 : cd[pc + 1]? = some (.ifCond .gt t)) (ht : t.toNat = t') (kt : b < a → kW sc d cd rk t' L st h Q) (kf : ¬ b < a → kW sc d cd rk (pc + 2) L st h Q) : kW sc d cd rk pc L (.inr (.inl b) :: .inr (.inl a) :: st) h Q := kw_lc hc hc2 ht (by simp [kcnd, klc_gt]) kt kf
theorem kw_lc_le {h : kH} {t a b : Int} {t' : Nat} (hc : cd[pc]? = some .lcmp) (hc2 : cd[pc + 1]? = some (.ifCond .le t)) (ht : t.toNat = t') (kt : a ≤ b → kW sc d cd rk t' L st h Q) (kf : ¬ a ≤ b → kW sc d cd rk (pc + 2) L st h Q) : kW sc d cd rk pc L (.inr (.inl b) :: .inr (.inl a) :: st) h Q := kw_lc hc hc2 ht (by simp [kcnd, klc_le]) kt kf
theorem kw_lc_eq {h : kH} {t a b : Int} {t' : Nat} (hc : cd[pc]? = some .lcmp) (hc2 : cd[pc + 1]? = some (.ifCond .eq t)) (ht : t.toNat = t') (kt : a = b → kW sc d cd rk t' L st h Q) (kf : ¬ a = b → kW sc d cd rk (pc + 2) L st h Q) : kW sc d cd rk pc L (.inr (.inl b) :: .inr (.inl a) :: st) h Q := kw_lc hc hc2 ht (by simp [kcnd, klc_eq]) kt kf
theorem kw_lc_ne {h : kH} {t a b : Int} {t' : Nat} (hc : cd[pc]? = some .lcmp) (hc2 : cd[pc + 1]? = some (.ifCond .ne t)) (ht : t.toNat = t') (kt : ¬ a = b → kW sc d cd rk t' L st h Q) (kf : a = b → kW sc d cd rk (pc + 2) L st h Q) : kW sc d cd rk pc L (.inr (.inl b) :: .inr (.inl a) :: st) h Q := kw_lc (P := ¬ a = b) hc hc2 ht (by simp [kcnd, klc_eq]) kt (fun q => kf (Classical.not_not.mp q))
theorem kw_tsw_at {h : kH} {dd lo hi x c : Int} {os : Array Int} {t : Int} {t' : Nat} (hc : cd[pc]? = some (.tableswitch dd lo hi os)) (e : x = c) (h0 : decide (c < lo ∨ hi < c) = false) (ho : os[(c - lo).toNat]? = some t) (ht : t.toNat = t') (k : kW sc d cd rk t' L st h Q) : kW sc d cd rk pc L (.inl x :: st) h Q := by
  subst e
  subst ht
  refine kw_step hc rfl rfl ?_ k
  unfold kst
  dsimp only
  rw [if_neg (of_decide_eq_false h0), ho]
theorem kw_tsw_out {h : kH} {dd lo hi x : Int} {os : Array Int} {t' : Nat} (hc : cd[pc]? = some (.tableswitch dd lo hi os)) (e : x < lo ∨ hi < x) (ht : dd.toNat = t') (k : kW sc d cd rk t' L st h Q) : kW sc d cd rk pc L (.inl x :: st) h Q := by
  subst ht
  refine kw_step hc rfl rfl ?_ k
  unfold kst
  dsimp only
  rw [if_pos e]
theorem kw_lsw {h : kH} {dd x : Int} {ps : Array (Int × Int)} {t' : Nat} (hc : cd[pc]? = some (.lookupswitch dd ps)) (ht : (Op.lookupswitch.offset ps.toList dd x).toNat = t') (k : kW sc d cd rk t' L st h Q) : kW sc d cd rk pc L (.inl x :: st) h Q := by
  subst ht
  exact kw_step hc rfl rfl rfl k
theorem kw_slen {h : kH} {j : Nat} (hc : cd[pc]? = some .fsub) (hj : j < 30 ∧ kwts st ≤ 8) (k : kW sc d cd rk (pc + 1) L (.inl ((kstrs.getD j []).length : Int) :: st) h Q) : kW sc d cd rk pc L (.inr (.inr (.inr j)) :: st) h Q := by
  refine kw_step hc rfl rfl ?_ k
  unfold kst
  dsimp only
  rw [if_pos hj]
  unfold ksx
  rw [if_neg (by omega)]
theorem kw_schr {h : kH} {j i' : Nat} {i : Int} (hc : cd[pc]? = some .fmul) (hj : j < 30) (h0 : 0 ≤ i) (h1 : i < ((kstrs.getD j []).length : Nat)) (hi : i.toNat = i') (hw : kwts st ≤ 8) (k : kW sc d cd rk (pc + 1) L (.inl ((kstrs.getD j []).getD i' 0) :: st) h Q) : kW sc d cd rk pc L (.inl i :: .inr (.inr (.inr j)) :: st) h Q := by
  subst hi
  refine kw_step hc rfl rfl ?_ k
  have e : ksx sc j = kstrs.getD j [] := by
    unfold ksx
    rw [if_neg (by omega)]
  unfold kst
  dsimp only
  rw [e, if_pos ⟨hj, h0, h1, hw⟩]
end KW
abbrev kS (j : Nat) : kV := .inr (.inr (.inr j))
/-- a RULE by its number; below 0: null -/
def kq (e : Int) : kV := .inr (.inr (.inl (if 0 ≤ e then some (125 + 2 * e.toNat) else none)))
theorem kq_p {e : Int} (h : 0 ≤ e) : kq e = kr (125 + 2 * e.toNat) := by unfold kq; rw [if_pos h]
theorem kq_n {e : Int} (h : e < 0) : kq e = .inr (.inr (.inl none)) := by unfold kq; rw [if_neg (by omega)]
theorem kt_odd {a : Nat} (h : 125 ≤ a) : ktab a = none ∧ kotab a = none := by
  constructor
  · cases hk : ktab a with
    | none => rfl
    | some q => exact absurd (ktab_lt hk) (by omega)
  · cases hk : kotab a with
    | none => rfl
    | some q => exact absurd (kotab_lt hk) (by omega)
theorem hH_R {s : kM} {e : Int} {k : Nat} (h : 0 ≤ e ∧ e < s 900 0 ∧ k = 125 + 2 * e.toNat) : (hH s).2.2 k = some (.inr (.inr (4, [kr (k + 1), kI (s k 1)]))) := by
  show hC s _ = _
  obtain ⟨k1, k2⟩ := kt_odd (a := k) (by omega)
  unfold hC
  rw [k1, k2]
  dsimp only
  rw [if_neg (by omega), if_neg (by omega), if_neg (by omega), if_pos (by omega), if_pos (by omega)]
theorem hH_RA {s : kM} {e : Int} {k : Nat} (h : 0 ≤ e ∧ e < s 900 0 ∧ k = 125 + 2 * e.toNat) : (hH s).2.2 (k + 1) = some (.inl (0, (s k 0).toNat, s (k + 1))) := by
  show hC s _ = _
  obtain ⟨k1, k2⟩ := kt_odd (a := k + 1) (by omega)
  unfold hC
  rw [k1, k2]
  dsimp only
  rw [if_neg (by omega), if_neg (by omega), if_neg (by omega), if_pos (by omega), if_neg (by omega), Nat.add_sub_cancel]
theorem hH_10 {s : kM} : (hH s).2.2 10 = some (.inr (.inl (7, 4, fun j => if j < 4 then some (57 + 7 * j) else none))) := rfl
theorem hH_56 {s : kM} : (hH s).2.2 56 = some (.inr (.inl (4, 6, fun j => if 0 ≤ s 56 j then some (125 + 2 * (s 56 j).toNat) else none))) := rfl
section KW
variable {sc : List Int} {d : Nat} {cd : List Instr} {rk pc : Nat} {L : kLs} {st : List kV} {Q : Option kV → kH → Prop} {s s2 : kM}
theorem kw_img {j : Nat} {i : Int} (hc : cd[pc]? = some .aaload) (h0 : 0 ≤ i) (h1 : i < ((4 : Nat) : Int)) (hj : i.toNat = j) (k : kW sc d cd rk (pc + 1) L (kr (57 + 7 * j) :: st) (hH s) Q) : kW sc d cd rk pc L (.inl i :: kr 10 :: st) (hH s) Q := by
  refine kw_aald hc hH_10 h0 h1 hj (Or.inr rfl) ?_
  rw [if_pos (by omega)]
  exact k
theorem kw_rul {j : Nat} {i : Int} (hc : cd[pc]? = some .aaload) (h0 : 0 ≤ i) (h1 : i < ((6 : Nat) : Int)) (hj : i.toNat = j) (k : kW sc d cd rk (pc + 1) L (kq (s 56 j) :: st) (hH s) Q) : kW sc d cd rk pc L (.inl i :: kr 56 :: st) (hH s) Q :=
  kw_aald hc hH_56 h0 h1 hj (Or.inl rfl) k
theorem kw_ifnullR {h : kH} {e t : Int} {t' : Nat} (hc : cd[pc]? = some (.ifnull t)) (ht : t.toNat = t') (kt : e < 0 → kW sc d cd rk t' L st h Q) (kf : ¬ e < 0 → kW sc d cd rk (pc + 1) L st h Q) : kW sc d cd rk pc L (kq e :: st) h Q := by
  subst ht
  by_cases he : e < 0
  · rw [kq_n he]
    exact kw_step hc rfl rfl rfl (kt he)
  · rw [kq_p (by omega)]
    exact kw_step hc rfl rfl rfl (kf he)
theorem kw_ifnonnullR {h : kH} {e t : Int} {t' : Nat} (hc : cd[pc]? = some (.ifnonnull t)) (ht : t.toNat = t') (kt : ¬ e < 0 → kW sc d cd rk t' L st h Q) (kf : e < 0 → kW sc d cd rk (pc + 1) L st h Q) : kW sc d cd rk pc L (kq e :: st) h Q := by
  subst ht
  by_cases he : e < 0
  · rw [kq_n he]
    exact kw_step hc rfl rfl rfl (kf he)
  · rw [kq_p (by omega)]
    exact kw_step hc rfl rfl rfl (kt he)
theorem kw_timed {e : Int} {k : Nat} (hc : cd[pc]? = some (.getfield 401)) (he : 0 ≤ e ∧ e < s 900 0 ∧ k = 125 + 2 * e.toNat) (kk : kW sc d cd rk (pc + 1) L (kI (s k 1) :: st) (hH s) Q) : kW sc d cd rk pc L (kq e :: st) (hH s) Q := by
  rw [kq_p he.1, ← he.2.2]
  exact kw_get hc (hH_R he) rfl kk
theorem kw_code {e : Int} {k : Nat} (hc : cd[pc]? = some (.getfield 400)) (he : 0 ≤ e ∧ e < s 900 0 ∧ k = 125 + 2 * e.toNat) (kk : kW sc d cd rk (pc + 1) L (kr (k + 1) :: st) (hH s) Q) : kW sc d cd rk pc L (kq e :: st) (hH s) Q := by
  rw [kq_p he.1, ← he.2.2]
  exact kw_get hc (hH_R he) rfl kk
end KW
