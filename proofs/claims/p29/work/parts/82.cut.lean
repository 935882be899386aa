/-! THE PURE SIDE: cutting a stream -/
def cutG (d : Nat) : List Nat → List Nat → List (List Nat)
  | _, [] => []
  | cur, w :: rest => if rest.length = 0 ∨ cur.length = 5 ∨ (1 ≤ cur.length ∧ (cur.getLast?.getD 0 + w) % d = 0) then (cur ++ [w]) :: cutG d [] rest else cutG d (cur ++ [w]) rest
theorem cutG_len (d : Nat) : ∀ (rest cur : List Nat), 2 * (cutG d cur rest).length ≤ cur.length + rest.length + 1 := by
  intro rest
  induction rest with
  | nil => intro cur; show 2 * 0 ≤ _; omega
  | cons w rest ih =>
    intro cur
    unfold cutG
    split
    · next h =>
      have h1 := ih []
      simp only [List.length_cons, List.length_nil] at h1 ⊢
      rcases h with h | h | h
      · have : rest = [] := List.length_eq_zero_iff.mp h
        subst this
        show 2 * (0 + 1) ≤ _
        omega
      · omega
      · omega
    · have h1 := ih (cur ++ [w])
      simp only [List.length_append, List.length_cons, List.length_nil] at h1 ⊢
      omega
theorem cutG_v (d : Nat) : ∀ (rest cur : List Nat), cur.length ≤ 5 → vl cur → vl rest → ∀ l ∈ cutG d cur rest, vch l := by
  intro rest
  induction rest with
  | nil => intro cur _ _ _ l h; cases h
  | cons w rest ih =>
    intro cur hc hv hr l h
    have hw : vl (cur ++ [w]) := by
      intro x hx
      rcases List.mem_append.mp hx with q | q
      · exact hv x q
      · exact hr x (by rw [List.mem_singleton.mp q]; exact List.mem_cons_self)
    have hr' : vl rest := fun x hx => hr x (List.mem_cons_of_mem _ hx)
    unfold cutG at h
    split at h
    · rcases List.mem_cons.mp h with q | q
      · subst q
        exact ⟨by simp, by simp; omega, hw⟩
      · exact ih [] (by simp) (fun x hx => by cases hx) hr' l q
    · next hh => exact ih (cur ++ [w]) (by simp; omega) hw hr' l h
theorem cutG_ne (d : Nat) : ∀ (rest cur : List Nat), rest ≠ [] → cutG d cur rest ≠ [] := by
  intro rest
  induction rest with
  | nil => intro cur h; exact absurd rfl h
  | cons w rest ih =>
    intro cur _
    unfold cutG
    split
    · exact List.cons_ne_nil _ _
    · next hh =>
      refine ih _ fun q => hh (Or.inl ?_)
      rw [q]
      rfl
theorem ends_J {wo cd : Nat → Int32} {ch : Int32} {n i z d u v : Nat} (hi : i + 1 ≤ n) (hn : n ≤ 30) (hz : z ≤ 6) (hd : 1 ≤ d) (hd9 : d ≤ 9) (hu : 1 ≤ i → wo (i - 1) = J u) (hv : wo i = J v) (bu : u ≤ 8) (bv : v ≤ 8) : F_X6_endsBehind (wo, cd, J n, ch) (J i) (J z) (J d) = some (J (if i + 1 = n ∨ z = 6 ∨ (1 ≤ i ∧ 2 ≤ z ∧ (u + v) % d = 0) then 1 else 0)) := by
  unfold F_X6_endsBehind
  have hm := Nat.mod_le (u + v) d
  by_cases c1 : i + 1 = n
  · simp (disch := omega) only [sm_letters, J_add, J_mul, J_sub, J_dec, J_nat, J_lt, J_le, J_eq, gd_J, gz_J, gb_J, J_div, J_mod, md_back, JN, J_neN, J_Nne, J_ltN, J_Nlt, J_leN, J_Nle, N_refl, J01, J_addN, J_pred, F_X9_at, F_X9_backupAt, F_X9_fails, F_X9_thrown, Option.bind_some, if_true, if_false, Nat.add_zero, Nat.zero_add, Nat.mul_zero, Nat.zero_mul, Nat.reduceAdd, Nat.reduceMul, Nat.reduceSub, Nat.reduceEqDiff, Nat.reduceLeDiff, Nat.reduceLT, Nat.reducePow, Nat.not_lt_zero, Nat.zero_le, eq_self, not_true_eq_false, not_false_eq_true, reduceIte, L_0, L_1, L_2, L_3, L_4, L_5, L_6, L_7, L_8, L_9, L_10, L_11, L_12, L_14, L_15, L_16, L_24, L_30, L_31, L_32, L_34, L_40, L_44, L_90, L_96, L_97, L_100, L_120, L_121, L_192, L_997, L_998, L_1000, L_1270, L_10000, L_17780, L_2540, L_32768, L_16510]
    rw [if_pos (show i = n - 1 by omega), if_pos (Or.inl c1)]
  by_cases c2 : z = 6
  · simp (disch := omega) only [sm_letters, J_add, J_mul, J_sub, J_dec, J_nat, J_lt, J_le, J_eq, gd_J, gz_J, gb_J, J_div, J_mod, md_back, JN, J_neN, J_Nne, J_ltN, J_Nlt, J_leN, J_Nle, N_refl, J01, J_addN, J_pred, F_X9_at, F_X9_backupAt, F_X9_fails, F_X9_thrown, Option.bind_some, if_true, if_false, Nat.add_zero, Nat.zero_add, Nat.mul_zero, Nat.zero_mul, Nat.reduceAdd, Nat.reduceMul, Nat.reduceSub, Nat.reduceEqDiff, Nat.reduceLeDiff, Nat.reduceLT, Nat.reducePow, Nat.not_lt_zero, Nat.zero_le, eq_self, not_true_eq_false, not_false_eq_true, reduceIte, L_0, L_1, L_2, L_3, L_4, L_5, L_6, L_7, L_8, L_9, L_10, L_11, L_12, L_14, L_15, L_16, L_24, L_30, L_31, L_32, L_34, L_40, L_44, L_90, L_96, L_97, L_100, L_120, L_121, L_192, L_997, L_998, L_1000, L_1270, L_10000, L_17780, L_2540, L_32768, L_16510]
    rw [if_neg (show ¬ i = n - 1 by omega), if_pos c2, if_pos (Or.inr (Or.inl c2))]
  by_cases c3 : 1 ≤ i
  · by_cases c4 : 2 ≤ z
    · simp (disch := omega) only [sm_letters, sm_worths, hu c3, hv, J_add, J_mul, J_sub, J_dec, J_nat, J_lt, J_le, J_eq, gd_J, gz_J, gb_J, J_div, J_mod, md_back, JN, J_neN, J_Nne, J_ltN, J_Nlt, J_leN, J_Nle, N_refl, J01, J_addN, J_pred, F_X9_at, F_X9_backupAt, F_X9_fails, F_X9_thrown, Option.bind_some, if_true, if_false, Nat.add_zero, Nat.zero_add, Nat.mul_zero, Nat.zero_mul, Nat.reduceAdd, Nat.reduceMul, Nat.reduceSub, Nat.reduceEqDiff, Nat.reduceLeDiff, Nat.reduceLT, Nat.reducePow, Nat.not_lt_zero, Nat.zero_le, eq_self, not_true_eq_false, not_false_eq_true, reduceIte, L_0, L_1, L_2, L_3, L_4, L_5, L_6, L_7, L_8, L_9, L_10, L_11, L_12, L_14, L_15, L_16, L_24, L_30, L_31, L_32, L_34, L_40, L_44, L_90, L_96, L_97, L_100, L_120, L_121, L_192, L_997, L_998, L_1000, L_1270, L_10000, L_17780, L_2540, L_32768, L_16510]
      rw [if_neg (show ¬ i = n - 1 by omega), if_neg c2, if_neg (by omega), if_neg (by omega), if_pos hd]
      by_cases c5 : (u + v) % d = 0
      · rw [if_pos c5, if_pos (Or.inr (Or.inr ⟨c3, c4, c5⟩))]
      · rw [if_neg c5, if_neg (by omega)]
    · simp (disch := omega) only [sm_letters, sm_worths, hu c3, hv, J_add, J_mul, J_sub, J_dec, J_nat, J_lt, J_le, J_eq, gd_J, gz_J, gb_J, J_div, J_mod, md_back, JN, J_neN, J_Nne, J_ltN, J_Nlt, J_leN, J_Nle, N_refl, J01, J_addN, J_pred, F_X9_at, F_X9_backupAt, F_X9_fails, F_X9_thrown, Option.bind_some, if_true, if_false, Nat.add_zero, Nat.zero_add, Nat.mul_zero, Nat.zero_mul, Nat.reduceAdd, Nat.reduceMul, Nat.reduceSub, Nat.reduceEqDiff, Nat.reduceLeDiff, Nat.reduceLT, Nat.reducePow, Nat.not_lt_zero, Nat.zero_le, eq_self, not_true_eq_false, not_false_eq_true, reduceIte, L_0, L_1, L_2, L_3, L_4, L_5, L_6, L_7, L_8, L_9, L_10, L_11, L_12, L_14, L_15, L_16, L_24, L_30, L_31, L_32, L_34, L_40, L_44, L_90, L_96, L_97, L_100, L_120, L_121, L_192, L_997, L_998, L_1000, L_1270, L_10000, L_17780, L_2540, L_32768, L_16510]
      rw [if_neg (show ¬ i = n - 1 by omega), if_neg c2, if_neg (by omega), if_pos (by omega), if_neg (by omega)]
  · simp (disch := omega) only [sm_letters, sm_worths, hv, J_add, J_mul, J_sub, J_dec, J_nat, J_lt, J_le, J_eq, gd_J, gz_J, gb_J, J_div, J_mod, md_back, JN, J_neN, J_Nne, J_ltN, J_Nlt, J_leN, J_Nle, N_refl, J01, J_addN, J_pred, F_X9_at, F_X9_backupAt, F_X9_fails, F_X9_thrown, Option.bind_some, if_true, if_false, Nat.add_zero, Nat.zero_add, Nat.mul_zero, Nat.zero_mul, Nat.reduceAdd, Nat.reduceMul, Nat.reduceSub, Nat.reduceEqDiff, Nat.reduceLeDiff, Nat.reduceLT, Nat.reducePow, Nat.not_lt_zero, Nat.zero_le, eq_self, not_true_eq_false, not_false_eq_true, reduceIte, L_0, L_1, L_2, L_3, L_4, L_5, L_6, L_7, L_8, L_9, L_10, L_11, L_12, L_14, L_15, L_16, L_24, L_30, L_31, L_32, L_34, L_40, L_44, L_90, L_96, L_97, L_100, L_120, L_121, L_192, L_997, L_998, L_1000, L_1270, L_10000, L_17780, L_2540, L_32768, L_16510]
    rw [if_neg (show ¬ i = n - 1 by omega), if_neg c2, if_pos (by omega), if_neg (by omega)]
theorem AH_at {f : Nat → Int32} {l : List Nat} (h : AH f (l.map J)) {i x : Nat} (hi : l[i]? = some x) : f i = J x := h i _ (by rw [List.getElem?_map, hi]; rfl)
theorem last_at {p cur : List Nat} {i : Nat} (h : 1 ≤ cur.length) (hi : i = p.length + cur.length) (r : List Nat) : (p ++ cur ++ r)[i - 1]? = some (cur.getLast?.getD 0) := by
  rcases List.eq_nil_or_concat cur with q | ⟨c, w, q⟩
  · subst q; simp at h
  · rw [List.concat_eq_append] at q
    subst q hi
    simp [List.getElem?_append]
theorem vl_last {cur : List Nat} (h : vl cur) : cur.getLast?.getD 0 ≤ 8 := by
  rcases List.eq_nil_or_concat cur with q | ⟨c, w, q⟩
  · subst q; simp
  · rw [List.concat_eq_append] at q
    subst q
    have := h w (by simp)
    simp
    omega
theorem vl_snoc {cur : List Nat} {w : Nat} (h : vl cur) (h1 : 1 ≤ w) (h2 : w ≤ 8) : vl (cur ++ [w]) := by
  intro x hx
  rcases List.mem_append.mp hx with q | q
  · exact h x q
  · rw [List.mem_singleton.mp q]; exact ⟨h1, h2⟩
/-- the class's cut -/
theorem cut_go {wo : Nat → Int32} {ws : List Nat} {d : Nat} (hwo : AH wo (ws.map J)) (hw : vl ws) (hn : ws.length ≤ 30) (hd : 1 ≤ d) (hd9 : d ≤ 9) : ∀ (rest cur p : List Nat) (acc : List (List Nat)) (f : Nat → Int32) (fuel : Nat), ws = p ++ cur ++ rest → cur.length ≤ 5 → vl cur → (rest = [] → cur = []) → acc.length + (cutG d cur rest).length ≤ 15 → rest.length < fuel → AH f (acc.map fun l => J (c8 l)) →
    ∃ f', lp (B_X6_cut_12 (J d)) fuel (J (c8 cur), J cur.length, J (p.length + cur.length), (wo, f, J ws.length, J acc.length)) = some (wo, f', J ws.length, J (acc ++ cutG d cur rest).length) ∧ AH f' ((acc ++ cutG d cur rest).map fun l => J (c8 l)) := by
  intro rest
  induction rest with
  | nil =>
    intro cur p acc f fuel he hc hv hne hb hf ha
    obtain ⟨fuel, rfl⟩ : ∃ q, fuel = q + 1 := ⟨fuel - 1, by omega⟩
    refine ⟨f, ?_, ?_⟩
    · show B_X6_cut_12 _ _ _ = _
      have hl : ws.length = p.length + cur.length := by rw [he]; simp
      unfold B_X6_cut_12
      simp (disch := omega) only [sm_letters, J_add, J_mul, J_sub, J_dec, J_nat, J_lt, J_le, J_eq, gd_J, gz_J, gb_J, J_div, J_mod, md_back, JN, J_neN, J_Nne, J_ltN, J_Nlt, J_leN, J_Nle, N_refl, J01, J_addN, J_pred, F_X9_at, F_X9_backupAt, F_X9_fails, F_X9_thrown, Option.bind_some, if_true, if_false, Nat.add_zero, Nat.zero_add, Nat.mul_zero, Nat.zero_mul, Nat.reduceAdd, Nat.reduceMul, Nat.reduceSub, Nat.reduceEqDiff, Nat.reduceLeDiff, Nat.reduceLT, Nat.reducePow, Nat.not_lt_zero, Nat.zero_le, eq_self, not_true_eq_false, not_false_eq_true, reduceIte, L_0, L_1, L_2, L_3, L_4, L_5, L_6, L_7, L_8, L_9, L_10, L_11, L_12, L_14, L_15, L_16, L_24, L_30, L_31, L_32, L_34, L_40, L_44, L_90, L_96, L_97, L_100, L_120, L_121, L_192, L_997, L_998, L_1000, L_1270, L_10000, L_17780, L_2540, L_32768, L_16510]
      rw [if_pos (by omega)]
      show _ = some (_, _, _, J (acc ++ []).length)
      rw [List.append_nil]
    · show AH f ((acc ++ []).map _)
      rw [List.append_nil]
      exact ha
  | cons w rest ih =>
    intro cur p acc f fuel he hc hv hne hb hf ha
    obtain ⟨fuel, rfl⟩ : ∃ q, fuel = q + 1 := ⟨fuel - 1, by omega⟩
    have hl : ws.length = p.length + cur.length + (rest.length + 1) := by rw [he, List.length_append, List.length_append, List.length_cons]
    have hwat : ws[p.length + cur.length]? = some w := by rw [he]; simp [List.getElem?_append]
    have hw18 : 1 ≤ w ∧ w ≤ 8 := hw w (by rw [he]; simp)
    have g1 := AH_at hwo hwat
    have hvs := vl_snoc hv hw18.1 hw18.2
    have h8 := c8_lt hvs (m := (cur ++ [w]).length) (Nat.le_refl _) (by simp; omega)
    rw [tk_all, c8_app] at h8
    have h8' := c8_pos hv
    have hlast := vl_last hv
    have hend := ends_J (wo := wo) (cd := f) (ch := J acc.length) (n := ws.length) (i := p.length + cur.length) (z := cur.length + 1) (d := d) (u := cur.getLast?.getD 0) (v := w) (by omega) hn (by omega) hd hd9
    have hsz : (rest.length = 0 ∨ cur.length = 5 ∨ (1 ≤ cur.length ∧ (cur.getLast?.getD 0 + w) % d = 0)) ↔ ((p.length + cur.length) + 1 = ws.length ∨ cur.length + 1 = 6 ∨ (1 ≤ p.length + cur.length ∧ 2 ≤ cur.length + 1 ∧ (cur.getLast?.getD 0 + w) % d = 0)) := by
      constructor
      · rintro (h | h | h)
        · left; omega
        · right; left; omega
        · right; right; exact ⟨by omega, by omega, h.2⟩
      · rintro (h | h | h)
        · left; omega
        · right; left; omega
        · right; right; exact ⟨by omega, h.2.2⟩
    have hend2 : F_X6_endsBehind (wo, f, J ws.length, J acc.length) (J (p.length + cur.length)) (J (cur.length + 1)) (J d) = some (J (if (rest.length = 0 ∨ cur.length = 5 ∨ (1 ≤ cur.length ∧ (cur.getLast?.getD 0 + w) % d = 0)) then 1 else 0)) := by
      by_cases hc1 : 1 ≤ cur.length
      · rw [hend (fun _ => by have := last_at (p := p) (i := p.length + cur.length) hc1 rfl (w :: rest); rw [← he] at this; exact AH_at hwo this) g1 (by omega) (by omega)]
        simp only [hsz]
      · have hc0 : cur = [] := List.length_eq_zero_iff.mp (by omega)
        subst hc0
        by_cases hp : 1 ≤ p.length
        · obtain ⟨u, hu, -, hu8⟩ := vl_at hw (m := p.length - 1) (by omega)
          rw [ends_J (u := u) (v := w) (by omega) hn (by simp) hd hd9 (fun _ => by have := AH_at hwo hu; simpa using this) g1 hu8 (by omega)]
          have e1 : (p.length + ([] : List Nat).length + 1 = ws.length ∨ ([] : List Nat).length + 1 = 6 ∨ 1 ≤ p.length + ([] : List Nat).length ∧ 2 ≤ ([] : List Nat).length + 1 ∧ (u + w) % d = 0) ↔ (rest.length = 0 ∨ ([] : List Nat).length = 5 ∨ 1 ≤ ([] : List Nat).length ∧ (([] : List Nat).getLast?.getD 0 + w) % d = 0) := by
            simp only [List.length_nil] at hl ⊢
            constructor
            · rintro (h | h | h)
              · left; omega
              · omega
              · omega
            · rintro (h | h | h)
              · left; omega
              · omega
              · omega
          simp only [e1]
        · rw [ends_J (u := 0) (v := w) (by omega) hn (by simp) hd hd9 (fun h => absurd h (by simp; omega)) g1 (by omega) (by omega)]
          have e1 : (p.length + ([] : List Nat).length + 1 = ws.length ∨ ([] : List Nat).length + 1 = 6 ∨ 1 ≤ p.length + ([] : List Nat).length ∧ 2 ≤ ([] : List Nat).length + 1 ∧ (0 + w) % d = 0) ↔ (rest.length = 0 ∨ ([] : List Nat).length = 5 ∨ 1 ≤ ([] : List Nat).length ∧ (([] : List Nat).getLast?.getD 0 + w) % d = 0) := by
            simp only [List.length_nil] at hl ⊢
            constructor
            · rintro (h | h | h)
              · left; omega
              · omega
              · omega
            · rintro (h | h | h)
              · left; omega
              · omega
              · omega
          simp only [e1]
    show ∃ f', B_X6_cut_12 _ (lp _ fuel) _ = _ ∧ _
    unfold B_X6_cut_12 F_X2_with
    simp (disch := omega) only [sm_letters, sm_worths, g1, hend2, ← c8_app, J_add, J_mul, J_sub, J_dec, J_nat, J_lt, J_le, J_eq, gd_J, gz_J, gb_J, J_div, J_mod, md_back, JN, J_neN, J_Nne, J_ltN, J_Nlt, J_leN, J_Nle, N_refl, J01, J_addN, J_pred, F_X9_at, F_X9_backupAt, F_X9_fails, F_X9_thrown, Option.bind_some, if_true, if_false, Nat.add_zero, Nat.zero_add, Nat.mul_zero, Nat.zero_mul, Nat.reduceAdd, Nat.reduceMul, Nat.reduceSub, Nat.reduceEqDiff, Nat.reduceLeDiff, Nat.reduceLT, Nat.reducePow, Nat.not_lt_zero, Nat.zero_le, eq_self, not_true_eq_false, not_false_eq_true, reduceIte, L_0, L_1, L_2, L_3, L_4, L_5, L_6, L_7, L_8, L_9, L_10, L_11, L_12, L_14, L_15, L_16, L_24, L_30, L_31, L_32, L_34, L_40, L_44, L_90, L_96, L_97, L_100, L_120, L_121, L_192, L_997, L_998, L_1000, L_1270, L_10000, L_17780, L_2540, L_32768, L_16510]
    rw [if_neg (show ¬ ws.length ≤ p.length + cur.length by omega)]
    unfold cutG
    unfold cutG at hb
    by_cases hc1 : rest.length = 0 ∨ cur.length = 5 ∨ (1 ≤ cur.length ∧ (cur.getLast?.getD 0 + w) % d = 0)
    · rw [if_pos hc1] at hb
      simp only [if_pos hc1]
      rw [List.length_cons] at hb
      unfold F_X6_close
      simp (disch := omega) only [sm_letters, sm_worths, sm_chunks, sm_codes, J_add, J_mul, J_sub, J_dec, J_nat, J_lt, J_le, J_eq, gd_J, gz_J, gb_J, J_div, J_mod, md_back, JN, J_neN, J_Nne, J_ltN, J_Nlt, J_leN, J_Nle, N_refl, J01, J_addN, J_pred, F_X9_at, F_X9_backupAt, F_X9_fails, F_X9_thrown, Option.bind_some, if_true, if_false, Nat.add_zero, Nat.zero_add, Nat.mul_zero, Nat.zero_mul, Nat.reduceAdd, Nat.reduceMul, Nat.reduceSub, Nat.reduceEqDiff, Nat.reduceLeDiff, Nat.reduceLT, Nat.reducePow, Nat.not_lt_zero, Nat.zero_le, eq_self, not_true_eq_false, not_false_eq_true, reduceIte, L_0, L_1, L_2, L_3, L_4, L_5, L_6, L_7, L_8, L_9, L_10, L_11, L_12, L_14, L_15, L_16, L_24, L_30, L_31, L_32, L_34, L_40, L_44, L_90, L_96, L_97, L_100, L_120, L_121, L_192, L_997, L_998, L_1000, L_1270, L_10000, L_17780, L_2540, L_32768, L_16510]
      rw [if_pos (show acc.length < 15 by omega)]
      have hah : AH (upd f acc.length (J (c8 (cur ++ [w])))) ((acc ++ [cur ++ [w]]).map fun l => J (c8 l)) := by
        rw [List.map_append]
        exact AH_app ha (by simp)
      obtain ⟨f', q1, q2⟩ := ih [] (p ++ (cur ++ [w])) (acc ++ [cur ++ [w]]) (upd f acc.length (J (c8 (cur ++ [w])))) fuel (by rw [he]; simp) (by simp) (fun x hx => by cases hx) (fun _ => rfl) (by simp; omega) (by simp at hf; omega) hah
      refine ⟨f', ?_, ?_⟩
      · have e1 : (acc ++ [cur ++ [w]]).length = acc.length + 1 := by simp
        have e2 : (p ++ (cur ++ [w])).length + ([] : List Nat).length = p.length + cur.length + 1 := by simp; omega
        rw [e1, e2] at q1
        rw [show acc ++ (cur ++ [w]) :: cutG d [] rest = (acc ++ [cur ++ [w]]) ++ cutG d [] rest by simp]
        simp only [Option.bind_some]
        exact q1
      · rw [show acc ++ (cur ++ [w]) :: cutG d [] rest = (acc ++ [cur ++ [w]]) ++ cutG d [] rest by simp]
        exact q2
    · rw [if_neg hc1] at hb
      simp only [if_neg hc1]
      simp (disch := omega) only [J_add, J_mul, J_sub, J_dec, J_nat, J_lt, J_le, J_eq, gd_J, gz_J, gb_J, J_div, J_mod, md_back, JN, J_neN, J_Nne, J_ltN, J_Nlt, J_leN, J_Nle, N_refl, J01, J_addN, J_pred, F_X9_at, F_X9_backupAt, F_X9_fails, F_X9_thrown, Option.bind_some, if_true, if_false, Nat.add_zero, Nat.zero_add, Nat.mul_zero, Nat.zero_mul, Nat.reduceAdd, Nat.reduceMul, Nat.reduceSub, Nat.reduceEqDiff, Nat.reduceLeDiff, Nat.reduceLT, Nat.reducePow, Nat.not_lt_zero, Nat.zero_le, eq_self, not_true_eq_false, not_false_eq_true, reduceIte, L_0, L_1, L_2, L_3, L_4, L_5, L_6, L_7, L_8, L_9, L_10, L_11, L_12, L_14, L_15, L_16, L_24, L_30, L_31, L_32, L_34, L_40, L_44, L_90, L_96, L_97, L_100, L_120, L_121, L_192, L_997, L_998, L_1000, L_1270, L_10000, L_17780, L_2540, L_32768, L_16510]
      obtain ⟨f', q1, q2⟩ := ih (cur ++ [w]) p acc f fuel (by rw [he]; simp) (by simp; omega) hvs (fun q => absurd (Or.inl (by rw [q]; rfl)) hc1) hb (by simp at hf; omega) ha
      refine ⟨f', ?_, q2⟩
      have e1 : (cur ++ [w]).length = cur.length + 1 := by simp
      rw [e1, ← Nat.add_assoc] at q1
      exact q1
theorem cut_J {wo cd : Nat → Int32} {ch : Int32} {ws : List Nat} {d : Nat} (hwo : AH wo (ws.map J)) (hw : vl ws) (hn : ws.length ≤ 30) (hd : 1 ≤ d) (hd9 : d ≤ 9) : ∃ f', F_X6_cut (wo, cd, J ws.length, ch) (J d) = some (wo, f', J ws.length, J (cutG d [] ws).length) ∧ AH f' ((cutG d [] ws).map fun l => J (c8 l)) := by
  have h2 := cutG_len d ws []
  simp only [List.length_nil] at h2
  exact cut_go hwo hw hn hd hd9 ws [] [] [] cd FU (by simp) (by simp) (fun x hx => by cases hx) (fun _ => rfl) (by simp; omega) (by unfold FU; omega) (AH_nil _)
/-- the Model's cut -/
theorem cuts_go {wo s : Nat → Int32} {ws : List Nat} {d : Nat} (hwo : AH wo (ws.map J)) (hw : vl ws) (hn : ws.length ≤ 30) (hd : 1 ≤ d) (hd9 : d ≤ 9) (hs : s 0 = J d) : ∀ (rest cur p : List Nat) (acc : List (List Nat)) (f : Nat → Int32) (fuel : Nat), ws = p ++ cur ++ rest → cur.length ≤ 5 → vl cur → (rest = [] → cur = []) → acc.length + (cutG d cur rest).length ≤ 15 → rest.length < fuel → AH f (acc.map fun l => J (c9 l)) →
    ∃ f', lp (B_X9_cuts_11 (J ws.length) wo s) fuel (J (c9 cur), J cur.length, J (p.length + cur.length), f, J acc.length) = some (f', J (acc ++ cutG d cur rest).length) ∧ AH f' ((acc ++ cutG d cur rest).map fun l => J (c9 l)) := by
  intro rest
  induction rest with
  | nil =>
    intro cur p acc f fuel he hc hv hne hb hf ha
    obtain ⟨fuel, rfl⟩ : ∃ q, fuel = q + 1 := ⟨fuel - 1, by omega⟩
    refine ⟨f, ?_, ?_⟩
    · show B_X9_cuts_11 _ _ _ _ _ = _
      have hl : ws.length = p.length + cur.length := by rw [he]; simp
      unfold B_X9_cuts_11
      simp (disch := omega) only [J_add, J_mul, J_sub, J_dec, J_nat, J_lt, J_le, J_eq, gd_J, gz_J, gb_J, J_div, J_mod, md_back, JN, J_neN, J_Nne, J_ltN, J_Nlt, J_leN, J_Nle, N_refl, J01, J_addN, J_pred, F_X9_at, F_X9_backupAt, F_X9_fails, F_X9_thrown, Option.bind_some, if_true, if_false, Nat.add_zero, Nat.zero_add, Nat.mul_zero, Nat.zero_mul, Nat.reduceAdd, Nat.reduceMul, Nat.reduceSub, Nat.reduceEqDiff, Nat.reduceLeDiff, Nat.reduceLT, Nat.reducePow, Nat.not_lt_zero, Nat.zero_le, eq_self, not_true_eq_false, not_false_eq_true, reduceIte, L_0, L_1, L_2, L_3, L_4, L_5, L_6, L_7, L_8, L_9, L_10, L_11, L_12, L_14, L_15, L_16, L_24, L_30, L_31, L_32, L_34, L_40, L_44, L_90, L_96, L_97, L_100, L_120, L_121, L_192, L_997, L_998, L_1000, L_1270, L_10000, L_17780, L_2540, L_32768, L_16510]
      rw [if_pos (by omega)]
      show _ = some (_, J (acc ++ []).length)
      rw [List.append_nil]
    · show AH f ((acc ++ []).map _)
      rw [List.append_nil]
      exact ha
  | cons w rest ih =>
    intro cur p acc f fuel he hc hv hne hb hf ha
    obtain ⟨fuel, rfl⟩ : ∃ q, fuel = q + 1 := ⟨fuel - 1, by omega⟩
    have hl : ws.length = p.length + cur.length + (rest.length + 1) := by rw [he, List.length_append, List.length_append, List.length_cons]
    have hwat : ws[p.length + cur.length]? = some w := by rw [he]; simp [List.getElem?_append]
    have hw18 : 1 ≤ w ∧ w ≤ 8 := hw w (by rw [he]; simp)
    have g1 := AH_at hwo hwat
    have hvs := vl_snoc hv hw18.1 hw18.2
    have h9 := c9_lt hvs (m := (cur ++ [w]).length) (Nat.le_refl _) (by simp; omega)
    rw [tk_all, c9_app] at h9
    have hlast := vl_last hv
    have hclose : ∀ (hc1 : rest.length = 0 ∨ cur.length = 5 ∨ (1 ≤ cur.length ∧ (cur.getLast?.getD 0 + w) % d = 0)), ∃ f', J_X9_cuts_92 (J (c9 cur), J cur.length, J (p.length + cur.length), f, J acc.length) (lp (B_X9_cuts_11 (J ws.length) wo s) fuel) wo () = some (f', J (acc ++ cutG d cur (w :: rest)).length) ∧ AH f' ((acc ++ cutG d cur (w :: rest)).map fun l => J (c9 l)) := by
      intro hc1
      unfold cutG
      unfold cutG at hb
      rw [if_pos hc1] at hb
      simp only [if_pos hc1]
      rw [List.length_cons] at hb
      unfold J_X9_cuts_92
      simp (disch := omega) only [g1, ← c9_app, J_add, J_mul, J_sub, J_dec, J_nat, J_lt, J_le, J_eq, gd_J, gz_J, gb_J, J_div, J_mod, md_back, JN, J_neN, J_Nne, J_ltN, J_Nlt, J_leN, J_Nle, N_refl, J01, J_addN, J_pred, F_X9_at, F_X9_backupAt, F_X9_fails, F_X9_thrown, Option.bind_some, if_true, if_false, Nat.add_zero, Nat.zero_add, Nat.mul_zero, Nat.zero_mul, Nat.reduceAdd, Nat.reduceMul, Nat.reduceSub, Nat.reduceEqDiff, Nat.reduceLeDiff, Nat.reduceLT, Nat.reducePow, Nat.not_lt_zero, Nat.zero_le, eq_self, not_true_eq_false, not_false_eq_true, reduceIte, L_0, L_1, L_2, L_3, L_4, L_5, L_6, L_7, L_8, L_9, L_10, L_11, L_12, L_14, L_15, L_16, L_24, L_30, L_31, L_32, L_34, L_40, L_44, L_90, L_96, L_97, L_100, L_120, L_121, L_192, L_997, L_998, L_1000, L_1270, L_10000, L_17780, L_2540, L_32768, L_16510]
      have hah : AH (upd f acc.length (J (c9 (cur ++ [w])))) ((acc ++ [cur ++ [w]]).map fun l => J (c9 l)) := by
        rw [List.map_append]
        exact AH_app ha (by simp)
      obtain ⟨f', q1, q2⟩ := ih [] (p ++ (cur ++ [w])) (acc ++ [cur ++ [w]]) (upd f acc.length (J (c9 (cur ++ [w])))) fuel (by rw [he]; simp) (by simp) (fun x hx => by cases hx) (fun _ => rfl) (by simp; omega) (by simp at hf; omega) hah
      refine ⟨f', ?_, ?_⟩
      · have e1 : (acc ++ [cur ++ [w]]).length = acc.length + 1 := by simp
        have e2 : (p ++ (cur ++ [w])).length + ([] : List Nat).length = p.length + cur.length + 1 := by simp; omega
        rw [e1, e2] at q1
        rw [show acc ++ (cur ++ [w]) :: cutG d [] rest = (acc ++ [cur ++ [w]]) ++ cutG d [] rest by simp]
        exact q1
      · rw [show acc ++ (cur ++ [w]) :: cutG d [] rest = (acc ++ [cur ++ [w]]) ++ cutG d [] rest by simp]
        exact q2
    have hgo : ∀ (hc1 : ¬ (rest.length = 0 ∨ cur.length = 5 ∨ (1 ≤ cur.length ∧ (cur.getLast?.getD 0 + w) % d = 0))), ∃ f', lp (B_X9_cuts_11 (J ws.length) wo s) fuel (J (c9 (cur ++ [w])), J (cur.length + 1), J (p.length + cur.length + 1), f, J acc.length) = some (f', J (acc ++ cutG d cur (w :: rest)).length) ∧ AH f' ((acc ++ cutG d cur (w :: rest)).map fun l => J (c9 l)) := by
      intro hc1
      unfold cutG
      unfold cutG at hb
      rw [if_neg hc1] at hb
      simp only [if_neg hc1]
      obtain ⟨f', q1, q2⟩ := ih (cur ++ [w]) p acc f fuel (by rw [he]; simp) (by simp; omega) hvs (fun q => absurd (Or.inl (by rw [q]; rfl)) hc1) hb (by simp at hf; omega) ha
      refine ⟨f', ?_, q2⟩
      have e1 : (cur ++ [w]).length = cur.length + 1 := by simp
      rw [e1, ← Nat.add_assoc] at q1
      exact q1
    have h69 : ∀ b : Nat, b ≤ 1 → (b = 1 ↔ (1 ≤ cur.length ∧ (cur.getLast?.getD 0 + w) % d = 0)) → ∃ f', J_X9_cuts_69 (J (c9 cur), J cur.length, J (p.length + cur.length), f, J acc.length) (lp (B_X9_cuts_11 (J ws.length) wo s) fuel) wo (J ws.length) (J b) = some (f', J (acc ++ cutG d cur (w :: rest)).length) ∧ AH f' ((acc ++ cutG d cur (w :: rest)).map fun l => J (c9 l)) := by
      intro b hb1 hb2
      unfold J_X9_cuts_69
      simp (disch := omega) only [g1, ← c9_app, J_add, J_mul, J_sub, J_dec, J_nat, J_lt, J_le, J_eq, gd_J, gz_J, gb_J, J_div, J_mod, md_back, JN, J_neN, J_Nne, J_ltN, J_Nlt, J_leN, J_Nle, N_refl, J01, J_addN, J_pred, F_X9_at, F_X9_backupAt, F_X9_fails, F_X9_thrown, Option.bind_some, if_true, if_false, Nat.add_zero, Nat.zero_add, Nat.mul_zero, Nat.zero_mul, Nat.reduceAdd, Nat.reduceMul, Nat.reduceSub, Nat.reduceEqDiff, Nat.reduceLeDiff, Nat.reduceLT, Nat.reducePow, Nat.not_lt_zero, Nat.zero_le, eq_self, not_true_eq_false, not_false_eq_true, reduceIte, L_0, L_1, L_2, L_3, L_4, L_5, L_6, L_7, L_8, L_9, L_10, L_11, L_12, L_14, L_15, L_16, L_24, L_30, L_31, L_32, L_34, L_40, L_44, L_90, L_96, L_97, L_100, L_120, L_121, L_192, L_997, L_998, L_1000, L_1270, L_10000, L_17780, L_2540, L_32768, L_16510]
      by_cases q1 : b = 0
      · rw [if_pos q1]
        by_cases q2 : cur.length = 5
        · rw [if_pos q2]
          exact hclose (Or.inr (Or.inl (by omega)))
        · rw [if_neg q2]
          by_cases q3 : p.length + cur.length = ws.length - 1
          · rw [if_pos q3]
            exact hclose (Or.inl (by omega))
          · rw [if_neg q3]
            exact hgo (fun h => by
              rcases h with h | h | h
              · omega
              · omega
              · have := hb2.mpr h; omega)
      · rw [if_neg q1]
        exact hclose (Or.inr (Or.inr (hb2.mp (by omega))))
    show ∃ f', B_X9_cuts_11 _ _ _ (lp _ fuel) _ = _ ∧ _
    clear hclose hgo ih
    generalize lp (B_X9_cuts_11 (J ws.length) wo s) fuel = self at h69 ⊢
    unfold B_X9_cuts_11 J_X9_cuts_68
    have hm := Nat.mod_le (cur.getLast?.getD 0 + w) d
    by_cases hc1 : 1 ≤ cur.length
    · have g2 : wo (p.length + cur.length - 1) = J (cur.getLast?.getD 0) := by
        have := last_at (p := p) (i := p.length + cur.length) hc1 rfl (w :: rest)
        rw [← he] at this
        exact AH_at hwo this
      simp (disch := omega) only [g1, g2, hs, J_add, J_mul, J_sub, J_dec, J_nat, J_lt, J_le, J_eq, gd_J, gz_J, gb_J, J_div, J_mod, md_back, JN, J_neN, J_Nne, J_ltN, J_Nlt, J_leN, J_Nle, N_refl, J01, J_addN, J_pred, F_X9_at, F_X9_backupAt, F_X9_fails, F_X9_thrown, Option.bind_some, if_true, if_false, Nat.add_zero, Nat.zero_add, Nat.mul_zero, Nat.zero_mul, Nat.reduceAdd, Nat.reduceMul, Nat.reduceSub, Nat.reduceEqDiff, Nat.reduceLeDiff, Nat.reduceLT, Nat.reducePow, Nat.not_lt_zero, Nat.zero_le, eq_self, not_true_eq_false, not_false_eq_true, reduceIte, L_0, L_1, L_2, L_3, L_4, L_5, L_6, L_7, L_8, L_9, L_10, L_11, L_12, L_14, L_15, L_16, L_24, L_30, L_31, L_32, L_34, L_40, L_44, L_90, L_96, L_97, L_100, L_120, L_121, L_192, L_997, L_998, L_1000, L_1270, L_10000, L_17780, L_2540, L_32768, L_16510]
      rw [if_neg (show ¬ ws.length ≤ p.length + cur.length by omega), if_neg (show ¬ cur.length ≤ 0 by omega)]
      by_cases hc2 : (cur.getLast?.getD 0 + w) % d = 0
      · rw [if_pos hc2]
        exact h69 1 (by omega) ⟨fun _ => ⟨hc1, hc2⟩, fun _ => rfl⟩
      · rw [if_neg hc2]
        exact h69 0 (by omega) ⟨fun h => absurd h (by omega), fun h => absurd h.2 hc2⟩
    · simp (disch := omega) only [g1, hs, J_add, J_mul, J_sub, J_dec, J_nat, J_lt, J_le, J_eq, gd_J, gz_J, gb_J, J_div, J_mod, md_back, JN, J_neN, J_Nne, J_ltN, J_Nlt, J_leN, J_Nle, N_refl, J01, J_addN, J_pred, F_X9_at, F_X9_backupAt, F_X9_fails, F_X9_thrown, Option.bind_some, if_true, if_false, Nat.add_zero, Nat.zero_add, Nat.mul_zero, Nat.zero_mul, Nat.reduceAdd, Nat.reduceMul, Nat.reduceSub, Nat.reduceEqDiff, Nat.reduceLeDiff, Nat.reduceLT, Nat.reducePow, Nat.not_lt_zero, Nat.zero_le, eq_self, not_true_eq_false, not_false_eq_true, reduceIte, L_0, L_1, L_2, L_3, L_4, L_5, L_6, L_7, L_8, L_9, L_10, L_11, L_12, L_14, L_15, L_16, L_24, L_30, L_31, L_32, L_34, L_40, L_44, L_90, L_96, L_97, L_100, L_120, L_121, L_192, L_997, L_998, L_1000, L_1270, L_10000, L_17780, L_2540, L_32768, L_16510]
      rw [if_neg (show ¬ ws.length ≤ p.length + cur.length by omega), if_pos (show cur.length ≤ 0 by omega)]
      exact h69 0 (by omega) ⟨fun h => absurd h (by omega), fun h => absurd h.1 hc1⟩
theorem cuts_J {wo s cd : Nat → Int32} {ch : Int32} {ws : List Nat} {d : Nat} (hwo : AH wo (ws.map J)) (hw : vl ws) (hn : ws.length ≤ 30) (hd : 1 ≤ d) (hd9 : d ≤ 9) (hs : s 0 = J d) : ∃ f', F_X9_cuts s wo (J ws.length) cd ch = some (f', J (cutG d [] ws).length) ∧ AH f' ((cutG d [] ws).map fun l => J (c9 l)) := by
  have h2 := cutG_len d ws []
  simp only [List.length_nil] at h2
  exact cuts_go hwo hw hn hd hd9 hs ws [] [] [] cd FU (by simp) (by simp) (fun x hx => by cases hx) (fun _ => rfl) (by simp; omega) (by unfold FU; omega) (AH_nil _)
