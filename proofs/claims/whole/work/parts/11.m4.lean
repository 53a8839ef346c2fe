/-! packs: the class -/
theorem cw_loop (v : V1) : ∀ (n x fu : Nat) (r : V2), x + n = 6 → n < fu → ∃ r1, f_X2_countWay_9 fu (nI x) v r = some (upd v 7 (v 7 + 1), r1) ∧ (∀ i, i ≠ 9 → r1 i = r i) ∧ (∀ i, i < x → r1 9 i = r 9 i) ∧ (∀ i, x ≤ i → i < 6 → r1 9 i = r 8 i) := by
  intro n
  induction n with
  | zero =>
    intro x fu r hx hf
    obtain ⟨f', rfl⟩ : ∃ f', fu = f' + 1 := ⟨fu - 1, by omega⟩
    have e : x = 6 := by omega
    subst e
    refine ⟨r, ?_, fun _ _ => rfl, fun _ _ => rfl, fun i h1 h2 => by omega⟩
    rw [f_X2_countWay_9_s, if_pos (show (6 : Int32) ≤ nI 6 by decide)]
  | succ n ih =>
    intro x fu r hx hf
    obtain ⟨f', rfl⟩ : ∃ f', fu = f' + 1 := ⟨fu - 1, by omega⟩
    have h9 : ¬ (6 : Int32) ≤ nI x := nI_ge (a := x) (b := 6) (by omega) (by omega)
    have hi := inR_nI (k := x) (N := 6) (by omega) (by decide)
    obtain ⟨r1, e1, e2, e3, e4⟩ := ih (x + 1) f' (va_up r 9 (upd (r 9) x (r 8 x))) (by omega) (by omega)
    refine ⟨r1, ?_, fun i h => ?_, fun i h => ?_, fun i h1 h2 => ?_⟩
    · rw [f_X2_countWay_9_s, if_neg h9, if_pos hi, if_pos hi, cl6 (by omega), nI_1, e1]
    · rw [e2 i h, va_up_ne _ _ h]
    · rw [e3 i (by omega), va_up_self, pk_un (by omega)]
    · rcases Nat.eq_or_lt_of_le h1 with h | h
      · subst h
        rw [e3 x (by omega), va_up_self, pk_us]
      · rw [e4 i h h2, va_up_ne _ _ (by decide)]
def PK (d c S : Nat) (bl : Nat → Nat) (bk sp : Nat → Int32) (a B : Nat) (st : Nat × (Nat → Int32)) (v : V1) (r : V2) : Prop := v 2 = nI c ∧ v 3 = nI d ∧ r 1 = bk ∧ r 4 = sp ∧ v 7 = nI st.1 ∧ (∀ i, i < 6 → r 9 i = st.2 i) ∧ (∀ k, k < d → r 7 k = nI (LD d c S bl B a k)) ∧ (∀ i, i < 6 → (i < a ∨ S.testBit i = false) → r 8 i = RM d c S B i)
/-- what the class leaves as it was -/
def FR (v : V1) (r : V2) (v1 : V1) (r1 : V2) : Prop := (∀ i, i ≠ 7 → v1 i = v i) ∧ (∀ i, i ≠ 7 → i ≠ 8 → i ≠ 9 → r1 i = r i)
theorem FR.t {v v1 v2 : V1} {r r1 r2 : V2} (h : FR v r v1 r1) (g : FR v1 r1 v2 r2) : FR v r v2 r2 :=
  ⟨fun i hi => (g.1 i hi).trans (h.1 i hi), fun i a b e => (g.2 i a b e).trans (h.2 i a b e)⟩
theorem cw {d c S : Nat} {bl sl : Nat → Nat} {bk sp : Nat → Int32} {B : Nat} {st : Nat × (Nat → Int32)} {v : V1} {r : V2} (hc : c ≤ 6) (hS : S < 2 ^ c) (h : PK d c S bl bk sp c B st v r) (hst : st.1 < 2 ^ 30) (hok : okN d c S bl sl B = true) : ∃ v1 r1, f_X2_countWay v r = some (v1, r1) ∧ FR v r v1 r1 ∧ PK d c S bl bk sp c B (vis d c S bl sl B st) v1 r1 := by
  obtain ⟨c2, c3, r1', r4, c7, r9, r7, r8⟩ := h
  have h8 : ∀ i, i < 6 → r 8 i = RM d c S B i := by
    intro i hi
    rcases Nat.lt_or_ge i c with h | h
    · exact r8 i hi (Or.inl h)
    · exact r8 i hi (Or.inr (Nat.testBit_lt_two_pow (Nat.lt_of_lt_of_le hS (Nat.pow_le_pow_right (by decide) h))))
  unfold f_X2_countWay vis
  rw [c7, if_pos hok]
  by_cases h0 : st.1 = 0
  · obtain ⟨r1, e1, e2, e3, e4⟩ := cw_loop v 6 0 80 r (by omega) (by omega)
    rw [nI_0] at e1
    rw [h0, if_pos nI_0, e1, if_pos rfl]
    refine ⟨_, r1, rfl, ⟨fun i hi => pk_un hi, fun i _ _ h => e2 i h⟩, by rw [pk_un (by decide), c2], by rw [pk_un (by decide), c3], by rw [e2 1 (by decide), r1'], by rw [e2 4 (by decide), r4], ?_, ?_, ?_, ?_⟩
    · rw [pk_us, c7, h0]; rfl
    · intro i hi
      rw [e4 i (by omega) hi, h8 i hi]
    · intro k hk; rw [e2 7 (by decide), r7 k hk]
    · intro i hi h; rw [e2 8 (by decide), r8 i hi h]
  · rw [if_neg (nI_ne0 (by omega) (by omega)), if_neg h0]
    refine ⟨_, r, rfl, ⟨fun i hi => pk_un hi, fun i _ _ h => rfl⟩, by rw [pk_un (by decide), c2], by rw [pk_un (by decide), c3], r1', r4, ?_, r9, r7, r8⟩
    rw [pk_us, nI_1]
theorem LD_blk {d c S a B k : Nat} {bl : Nat → Nat} (hd : 0 < d) (ha : a < c) (hs : S.testBit a = true) (hB : DA d c S a ∣ B) (hk : k < d) (x : Nat) : LD d c S bl (B + k * DA d c S (a + 1)) (a + 1) x = LD d c S bl B a x + (if k = x then bl a else 0) := by
  obtain ⟨b1, b2, b3, b4⟩ := blk hd ha hs hB hk
  show LD d c S bl _ a x + tm d c S bl _ a x = _
  rw [LD_eq (Nat.le_of_lt ha) b3 x a (Nat.le_refl a)]
  unfold tm
  rw [b2, hs, Bool.true_and]
  simp
theorem RM_blk {d c S a B k i : Nat} (hd : 0 < d) (ha : a < c) (hs : S.testBit a = true) (hB : DA d c S a ∣ B) (hk : k < d) (h : i < a ∨ S.testBit i = false) : RM d c S (B + k * DA d c S (a + 1)) i = RM d c S B i := by
  obtain ⟨b1, b2, b3, b4⟩ := blk hd ha hs hB hk
  unfold RM
  rcases h with h | h
  · rw [dg_eq h (Nat.le_of_lt ha) b3]
  · rw [h, if_neg Bool.false_ne_true, if_neg Bool.false_ne_true]
theorem rooms {d c S a B : Nat} {bl sl : Nat → Nat} {bk sp : Nat → Int32} (hd : 0 < d) (hd4 : d ≤ 4) (hc : c ≤ 6) (hbl : ∀ j, bl j ≤ 9) (hsl : ∀ j, sl j ≤ 9 ∧ sp j = nI (sl j)) (ha : a < c) (hs : S.testBit a = true) (hB : DA d c S a ∣ B) (hfit : ∀ k, k < d → LD d c S bl B a k ≤ sl k) (PP : V1 → V2 → Int32 → Int32 → Option ST)
    (HP : ∀ (v : V1) (r : V2) (st : Nat × (Nat → Int32)) (B' : Nat), DA d c S (a + 1) ∣ B' → PK d c S bl bk sp (a + 1) B' st v r → (∀ k, k < d → LD d c S bl B' (a + 1) k ≤ sl k) → st.1 + DA d c S (a + 1) < 2 ^ 30 → ∃ v1 r1, PP v r (nI (a + 1)) (nI S) = some (v1, r1) ∧ FR v r v1 r1 ∧ PK d c S bl bk sp (a + 1) B' (iter (vis d c S bl sl) B' (DA d c S (a + 1)) st) v1 r1) :
    ∀ (m k fu : Nat) (v : V1) (r : V2) (st : Nat × (Nat → Int32)), k + m = d → m < fu → PK d c S bl bk sp a B st v r → st.1 + m * DA d c S (a + 1) < 2 ^ 30 → ∃ v1 r1, f_X2_placeFrom_49 PP (nI a) (nI S) fu (nI (bl a)) (nI k) v r = some (v1, r1) ∧ FR v r v1 r1 ∧ PK d c S bl bk sp a B (iter (vis d c S bl sl) (B + k * DA d c S (a + 1)) (m * DA d c S (a + 1)) st) v1 r1 := by
  intro m
  have ha6 : a < 6 := by omega
  induction m with
  | zero =>
    intro k fu v r st hk hf hP hst
    obtain ⟨f', rfl⟩ : ∃ f', fu = f' + 1 := ⟨fu - 1, by omega⟩
    refine ⟨v, r, ?_, ⟨fun _ _ => rfl, fun _ _ _ _ => rfl⟩, ?_⟩
    · rw [f_X2_placeFrom_49_s, hP.2.1, if_pos (nI_le (by omega) (by omega))]
    · rw [Nat.zero_mul]; exact hP
  | succ m ih =>
    intro k fu v r st hk hf hP hst
    obtain ⟨f', rfl⟩ : ∃ f', fu = f' + 1 := ⟨fu - 1, by omega⟩
    obtain ⟨c2, c3, r1', r4, c7, r9, r7, r8⟩ := id hP
    have hkd : k < d := by omega
    have hi := inR_nI (k := k) (N := 4) (by omega) (by decide)
    have hck : (nI k).toNatClampNeg = k := nI_clamp (by omega)
    have hia := inR_nI (k := a) (N := 6) ha6 (by decide)
    obtain ⟨b1, b2, b3, b4⟩ := blk hd ha hs hB hkd
    have hsk := (hsl k).1
    have hba := hbl a
    have hfk := hfit k hkd
    have hmul : (m + 1) * DA d c S (a + 1) = DA d c S (a + 1) + m * DA d c S (a + 1) := by rw [Nat.add_mul, Nat.one_mul, Nat.add_comm]
    have hnext : B + k * DA d c S (a + 1) + DA d c S (a + 1) = B + (k + 1) * DA d c S (a + 1) := by rw [Nat.add_mul, Nat.one_mul, Nat.add_assoc]
    rw [hmul] at hst
    rw [f_X2_placeFrom_49_s, c3, if_neg (nI_ge hkd (by omega)), if_pos hi, if_pos hi, hck, r4, (hsl k).2, r7 k hkd, nI_add, hmul, iter_add, hnext]
    by_cases hg : sl k < LD d c S bl B a k + bl a
    · rw [if_pos (nI_lt hg (by omega)), nI_1]
      have hno : iter (vis d c S bl sl) (B + k * DA d c S (a + 1)) (DA d c S (a + 1)) st = st := by
        apply iter_id
        intro N x h1 h2
        unfold vis
        have hN := b4 N h1 h2
        have h3 : LD d c S bl N (a + 1) k = LD d c S bl B a k + bl a := by
          rw [LD_eq (by omega) hN k (a + 1) (Nat.le_refl _), LD_blk hd ha hs hB hkd, if_pos rfl]
        have h4 := LD_mono (d := d) (c := c) (S := S) (bl := bl) (N := N) (k := k) (m := a + 1) (c - (a + 1))
        rw [show a + 1 + (c - (a + 1)) = c by omega] at h4
        rw [okN_f hkd (by omega), if_neg Bool.false_ne_true]
      rw [hno]
      exact ih (k + 1) f' v r st (by omega) (by omega) hP (by omega)
    · rw [if_neg (nI_nlt (by omega) (by omega)), if_pos hi, if_pos hi, if_pos hia, nI_1, cl6 ha6]
      have hP1 : PK d c S bl bk sp (a + 1) (B + k * DA d c S (a + 1)) st v (va_up (va_up r 7 (upd (r 7) k (nI (LD d c S bl B a k + bl a)))) 8 (upd (va_up r 7 (upd (r 7) k (nI (LD d c S bl B a k + bl a))) 8) a (nI k))) := by
        refine ⟨c2, c3, by rw [va_up_ne _ _ (by decide), va_up_ne _ _ (by decide), r1'], by rw [va_up_ne _ _ (by decide), va_up_ne _ _ (by decide), r4], c7, fun i hi => by rw [va_up_ne _ _ (by decide), va_up_ne _ _ (by decide), r9 i hi], ?_, ?_⟩
        · intro x hx
          rw [va_up_ne _ _ (by decide), va_up_self, LD_blk hd ha hs hB hkd]
          by_cases e : k = x
          · subst e; rw [pk_us, if_pos rfl]
          · rw [pk_un (fun z => e z.symm), if_neg e, Nat.add_zero, r7 x hx]
        · intro i hi h
          rw [va_up_self, va_up_ne _ _ (by decide)]
          by_cases e : i = a
          · subst e
            rw [pk_us]
            unfold RM
            rw [if_pos hs, b2]
          · have h' : i < a ∨ S.testBit i = false := by
              rcases h with h | h
              · left; omega
              · exact Or.inr h
            rw [pk_un e, r8 i hi h', RM_blk hd ha hs hB hkd h']
      obtain ⟨v1, r1, e1, e2, e3⟩ := HP v _ st _ b1 hP1 (fun x hx => by
        rw [LD_blk hd ha hs hB hkd]
        have := hfit x hx
        split
        · rename_i e; subst e; omega
        · omega) (by omega)
      rw [e1, Option.bind_some, if_pos hi, if_pos hi, nI_1]
      obtain ⟨p2, p3, p1', p4, p7, p9, q7, q8⟩ := e3
      have hP2 : PK d c S bl bk sp a B (iter (vis d c S bl sl) (B + k * DA d c S (a + 1)) (DA d c S (a + 1)) st) v1 (va_up r1 7 (upd (r1 7) k (r1 7 k - nI (bl a)))) := by
        refine ⟨p2, p3, by rw [va_up_ne _ _ (by decide), p1'], by rw [va_up_ne _ _ (by decide), p4], p7, fun i hi => by rw [va_up_ne _ _ (by decide), p9 i hi], ?_, ?_⟩
        · intro x hx
          rw [va_up_self]
          by_cases e : x = k
          · subst e
            rw [pk_us, q7 x hx, LD_blk hd ha hs hB hkd, if_pos rfl, pk_sub (by omega), Nat.add_sub_cancel]
          · rw [pk_un e, q7 x hx, LD_blk hd ha hs hB hkd, if_neg (fun z => e z.symm), Nat.add_zero]
        · intro i hi h
          have h' : i < a + 1 ∨ S.testBit i = false := by
            rcases h with h | h
            · left; omega
            · exact Or.inr h
          rw [va_up_ne _ _ (by decide), q8 i hi h', RM_blk hd ha hs hB hkd h]
      have hle := vis_le (d := d) (c := c) (S := S) (bl := bl) (sl := sl) (DA d c S (a + 1)) (B + k * DA d c S (a + 1)) st
      obtain ⟨v2, r2, g1, g2, g3⟩ := ih (k + 1) f' v1 _ _ (by omega) (by omega) hP2 (by omega)
      refine ⟨v2, r2, g1, ⟨fun i h => ?_, fun i h1 h2 h3 => ?_⟩, g3⟩
      · rw [g2.1 i h, e2.1 i h]
      · rw [g2.2 i h1 h2 h3, va_up_ne _ _ h1, e2.2 i h1 h2 h3, va_up_ne _ _ h2, va_up_ne _ _ h1]
theorem place {d c S : Nat} {bl sl : Nat → Nat} {bk sp : Nat → Int32} (hd : 0 < d) (hd4 : d ≤ 4) (hc : c ≤ 6) (hS : S < 2 ^ c) (hbl : ∀ j, bl j ≤ 9 ∧ bk j = nI (bl j)) (hsl : ∀ j, sl j ≤ 9 ∧ sp j = nI (sl j)) : ∀ (n a fu : Nat) (v : V1) (r : V2) (st : Nat × (Nat → Int32)) (B : Nat), a + n = c → n < fu → DA d c S a ∣ B → PK d c S bl bk sp a B st v r → (∀ k, k < d → LD d c S bl B a k ≤ sl k) → st.1 + DA d c S a < 2 ^ 30 → ∃ v1 r1, f_X2_placeFrom fu v r (nI a) (nI S) = some (v1, r1) ∧ FR v r v1 r1 ∧ PK d c S bl bk sp a B (iter (vis d c S bl sl) B (DA d c S a) st) v1 r1 := by
  intro n
  induction n with
  | zero =>
    intro a fu v r st B hn hf hB hP hfit hst
    obtain ⟨f', rfl⟩ : ∃ f', fu = f' + 1 := ⟨fu - 1, by omega⟩
    have e : a = c := by omega
    subst e
    have hna : f_X1_isArticle v r (nI a) = false := by
      unfold f_X1_isArticle
      have h1 : nI a ≤ nI a := nI_le (Nat.le_refl a) (by omega)
      rw [hP.1]
      simp [h1]
    obtain ⟨v1, r1, e1, e2, e3⟩ := cw hc hS hP (by omega) (okN_t hfit)
    refine ⟨v1, r1, ?_, e2, ?_⟩
    · rw [f_X2_placeFrom_s, hna, if_neg Bool.false_ne_true, e1, Option.bind_some]
    · rw [DA_c]; exact e3
  | succ n ih =>
    intro a fu v r st B hn hf hB hP hfit hst
    obtain ⟨f', rfl⟩ : ∃ f', fu = f' + 1 := ⟨fu - 1, by omega⟩
    have hac : a < c := by omega
    have ha6 : a < 6 := by omega
    have hS64 := p64 hc hS
    have hna : f_X1_isArticle v r (nI a) = true := by
      unfold f_X1_isArticle
      have h1 : ¬ nI c ≤ nI a := nI_ge hac (by omega)
      have h2 : ¬ nI a < 0 := nI_pos (by omega)
      rw [hP.1]
      simp [h1, h2]
    have hia := inR_nI (k := a) (N := 6) ha6 (by decide)
    rw [f_X2_placeFrom_s, hna, if_pos rfl, hasb hS64 ha6]
    have eD := DA_s (d := d) (S := S) hac
    cases hs : S.testBit a with
    | true =>
      rw [hs, if_pos rfl] at eD
      rw [if_pos rfl, if_pos hia, cl6 ha6, hP.2.2.1, (hbl a).2]
      have h := rooms hd hd4 hc (fun j => (hbl j).1) hsl hac hs hB hfit (f_X2_placeFrom f') (fun v r st B' h1 h2 h3 h4 => ih (a + 1) f' v r st B' (by omega) (by omega) h1 h2 h3 h4) d 0 80 v r st (by omega) (by omega) hP (by rw [← eD]; exact hst)
      rw [nI_0, Nat.zero_mul, Nat.add_zero, ← eD] at h
      exact h
    | false =>
      rw [hs, if_neg Bool.false_ne_true] at eD
      rw [if_neg Bool.false_ne_true, nI_1]
      rw [eD] at hB hst ⊢
      have hLD : ∀ B' k, LD d c S bl B' (a + 1) k = LD d c S bl B' a k := by
        intro B' k
        show LD d c S bl B' a k + tm d c S bl B' a k = _
        unfold tm
        rw [hs]
        rfl
      obtain ⟨c2, c3, r1', r4, c7, r9, r7, r8⟩ := id hP
      obtain ⟨v1, r1, e1, e2, p2, p3, p1', p4, p7, p9, q7, q8⟩ := ih (a + 1) f' v r st B (by omega) (by omega) hB ⟨c2, c3, r1', r4, c7, r9, fun k hk => by rw [hLD, r7 k hk], fun i hi h => by
        rcases h with h | h
        · rcases Nat.eq_or_lt_of_le (Nat.le_of_lt_succ h) with h | h
          · subst h; exact r8 i hi (Or.inr hs)
          · exact r8 i hi (Or.inl h)
        · exact r8 i hi (Or.inr h)⟩ (fun k hk => by rw [hLD]; exact hfit k hk) hst
      refine ⟨v1, r1, ?_, e2, p2, p3, p1', p4, p7, p9, fun k hk => by rw [← hLD, q7 k hk], fun i hi h => ?_⟩
      · rw [e1, Option.bind_some]
      · rcases h with h | h
        · exact q8 i hi (Or.inl (by omega))
        · exact q8 i hi (Or.inr h)
