/-! THE START, and every call -/
theorem sg_near : ∀ a b : Fin 10, SG 146 (6 + a.val) b.val = (if a.val = b.val then 0 else -1) := by decide +kernel
theorem sg_keys : ∀ k : Fin 26, SG 146 177 k.val = KEYS.getD k.val 0 := by decide +kernel
theorem sg_code : ∀ a : Fin 8, SG 146 (39 + 7 * a.val) 2 = -1 := by decide +kernel
theorem sg_word : ∀ i : Fin 8, SG 146 166 i.val = -1 := by decide +kernel
theorem inv_start : Inv (SG 146) := by
  have e14 : SG 146 1 4 = 0 := by decide +kernel
  have e15 : SG 146 1 5 = 0 := by decide +kernel
  have e30 : SG 146 170 30 = 0 := by decide +kernel
  have e31 : SG 146 170 31 = 0 := by decide +kernel
  have e2 : SG 146 170 2 = 0 := by decide +kernel
  have e16 : SG 146 16 0 = 0 := by decide +kernel
  have e118 : SG 146 118 1 = 0 := by decide +kernel
  have ep : SG 146 170 16 = -1 := by decide +kernel
  have e35 : SG 146 170 35 = 0 := by decide +kernel
  have e06 : SG 146 0 6 = 0 := by decide +kernel
  have e228 : SG 146 22 8 = 0 := by decide +kernel
  have e227 : SG 146 22 7 = 0 := by decide +kernel
  have e41 : SG 146 170 41 = 0 := by decide +kernel
  have e305 : SG 146 30 5 = 0 := by decide +kernel
  have e74 : SG 146 170 74 = -1 := by decide +kernel
  have e82 : SG 146 170 82 = -1 := by decide +kernel
  have e164 : SG 146 164 3 = 0 := by decide +kernel
  have e129 : SG 146 129 0 = 0 := by decide +kernel
  have e129' : SG 146 129 1 = 0 := by decide +kernel
  have e48 : SG 146 170 48 = -1 := by decide +kernel
  have e17 : SG 146 170 17 = 0 := by decide +kernel
  have e178 : SG 146 178 0 = 0 := by decide +kernel
  have hn : ∀ a b, a < 10 → b < 10 → SG 146 (6 + a) b = (if a = b then 0 else -1) := fun a b ha hb => sg_near ⟨a, ha⟩ ⟨b, hb⟩
  have hM : ∀ a b, a < 10 → b < 10 → nM (SG 146) a b = (if a = b then 0 else 1000) := fun a b ha hb => by
    unfold nM
    rw [hn a b ha hb]
    by_cases h : a = b
    · rw [if_pos h, if_pos h, if_neg (by decide)]
    · rw [if_neg h, if_neg h, if_pos rfl]
  refine ⟨⟨⟨?_, ?_, ?_⟩, ⟨?_, ?_, ?_⟩, fun w hw => ?_⟩, ⟨⟨fun a b ha hb => ?_, fun a ha => ?_, fun a x l b ha hx hb he => ?_, fun a b ha hb h => ?_⟩, fun a b ha hb => ?_⟩, ⟨⟨?_, ?_, ?_⟩, fun i hi => ?_⟩, Or.inl ⟨e118, ep⟩, fun k hk => sg_keys ⟨k, hk⟩, ⟨⟨?_, ?_, ?_⟩, fun a ha => ⟨fun h => ?_, ?_, fun _ => sg_code ⟨a, ha⟩⟩⟩, ⟨⟨?_, ?_, ?_⟩, fun i hi => ?_⟩, Or.inl e74, ⟨fun i _ _ => Or.inr e82, Or.inl ⟨e164, e82, fun i hi => sg_word ⟨i, hi⟩⟩⟩, Or.inl ⟨e129, e129', e48⟩, Or.inl e17, ?_, ?_, ?_, 0, 0, 0, fun _ => 0, fun _ => [], fun _ => 0, e17, by decide, e227, e228, ⟨by decide, by decide, rfl, by decide⟩, fun p hp => absurd hp (Nat.not_lt_zero _), fun _ _ _ h => absurd h (Nat.not_lt_zero _), fun i hi => absurd hi (Nat.not_lt_zero _)⟩
  · rw [e30, e14]
  · rw [e14]; decide
  · rw [e14]; decide
  · rw [e31, e15]
  · rw [e15]; decide
  · rw [e15]; decide
  · rw [e15] at hw; omega
  · rw [hM a b ha hb]
    split <;> decide
  · rw [hM a a ha ha, if_pos rfl]
  · obtain ⟨w, hw, -⟩ := he
    rw [e15] at hw; omega
  · rw [hM a b ha hb] at h ⊢
    by_cases hab : a = b
    · rw [if_pos hab]
      exact ⟨0, hab, rfl⟩
    · rw [if_neg hab] at h
      exact absurd h (by decide)
  · rw [hn a b ha hb]
    split <;> decide
  · rw [e2, e16]
  · rw [e16]; decide
  · rw [e16]; decide
  · rw [e16] at hi; omega
  · rw [e35, e06]
  · rw [e06]; decide
  · rw [e06]; decide
  · rw [e06] at h; omega
  · rw [sg_code ⟨a, ha⟩, e228]; decide
  · rw [e41, e305]
  · rw [e305]; decide
  · rw [e305]; decide
  · rw [e305] at hi; omega
  · rw [e17, e228]; exact e178
  · rw [e228]; decide
  · rw [e228]; decide
theorem all_calls : PStep Inv := ⟨c_feed, c_back, c_read, c_place, c_spot, c_way, c_agent, c_give, c_post, c_sight, c_turned, c_strike, c_distance, c_run, c_where, c_knows, c_chain, c_has, c_left, c_met, c_ended, c_deeds, c_saws, c_saw, c_falls, c_fallen, c_struck, c_canBe, c_fits, c_could, c_since, c_touched, c_fed, c_word, c_doubt, c_count⟩
