/-- the class bars by its code -/
theorem KB_of {k : Nat} (hk : k < 6) {kc : List Int} {s : kM} (hl : s (125 + 2 * k) 0 = ((kc.length : Nat) : Int)) (hl4 : kc.length < 400) (hc : ∀ i, i < kc.length → s (126 + 2 * k) i = kc.getD i 0) (hW : WF true kc) (hp : pus kc ≤ 60) : KBs k (fun w => decide (vof kc w = 1)) s := by
  intro t q1 q2 q3
  obtain ⟨val, hv, hb⟩ := hW
  unfold f_Rule_bars f_Rule_bars_4
  refine (K_run (k := k) (kc := kc) (s0 := t) q3 (by rw [q1]; exact hl) hl4 hk (fun i hi => by rw [q2]; exact hc i hi) kc 0 0 gF t (by omega) (fun j hj => by rw [Nat.zero_add]) hv.1 (hv.2.1 0).1 (by omega) (by show kc.length < 4096; omega) (fun _ _ => rfl)).mono ?_
  rintro r ⟨r1, r2⟩
  refine ⟨?_, r2⟩
  rw [r1, (hv.2.1 0).2, (hv.2.2.1 (t 52) (t 53) 0).1]
  have e := vof_v hv (t 52)
  rcases hb rfl (t 52) with h | h
  · rw [if_neg (fun z => z.2 h), if_neg]
    rw [decide_eq_true_eq, e, h]
    decide
  · rw [if_pos ⟨by decide, by rw [h]; decide⟩, if_pos]
    rw [decide_eq_true_eq, e, h]
theorem E_of {kc : List Int} (hW : WF true kc) : Eok (fun w => decide (vof kc w = 1)) ∧ (flg kc = 0 → Etm (fun w => decide (vof kc w = 1))) := by
  obtain ⟨val, hv, hb⟩ := hW
  constructor
  · intro x y h
    dsimp only
    rw [vof_v hv, vof_v hv, hv.2.2.2 x y (fun i hi _ => h i hi)]
  · intro hf x y
    have hn : ¬ (-7 : Int) ∈ kc := fun z => by
      unfold flg at hf
      rw [if_pos z] at hf
      cases hf
    dsimp only
    rw [vof_v hv, vof_v hv, hv.2.2.2 (kup x 6 y) x (fun i hi h6 => ?_)]
    unfold kup
    rw [if_neg]
    intro h
    exact hn (h6 h)
