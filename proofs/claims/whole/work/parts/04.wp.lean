def wp_X8_within (x0 : Int32) (x1 : Int32) (post : Int32 → Prop) : Prop :=
  ((x0 < 0 → post 0) ∧ (¬ x0 < 0 → ((x1 ≤ x0 → post 0) ∧ (¬ x1 ≤ x0 → post 1))))
abbrev rm_X8_within : Room := { frames := 0, cells := 0, slots := 0, locals := 0 }
def wp_X8_isPair (x0 : Int32) (x1 : Int32) (post : Int32 → Prop) : Prop :=
  wp_X8_within x0 8 (fun r1 => ((r1 = 0 → post 0) ∧ (¬ r1 = 0 → wp_X8_within x1 8 (fun r2 => ((r2 = 0 → post 0) ∧ (¬ r2 = 0 → post 1))))))
abbrev rm_X8_isPair : Room := { frames := 1, cells := 0, slots := 0, locals := 21 }
def wp_X8_pairOf (x0 : Int32) (x1 : Int32) (post : Int32 → Prop) : Prop :=
  post ((x0 * 8) + x1)
abbrev rm_X8_pairOf : Room := { frames := 0, cells := 0, slots := 0, locals := 0 }
def wp_X8_holds (x0 : Int64) (x2 : Int32) (post : Int32 → Prop) : Prop :=
  (((lg_cmp ((jushr x0 x2) &&& 1) 0) = 0 → post 0) ∧ (¬ (lg_cmp ((jushr x0 x2) &&& 1) 0) = 0 → post 1))
abbrev rm_X8_holds : Room := { frames := 0, cells := 0, slots := 0, locals := 0 }
def wp_X6_spread_c9_J43 (x1 : Int32) (x2 : Int32) (x3 : Int32) (z1 : Int32) (z2 : Int64) (u : WU) (post : WU → Prop) (K2 : Int32 → WU → Prop) : Prop :=
  vp_in z1 4 ∧ ∀ u7 : WU, u7 = uJ u 0 (vp_updL (u.2 0) z1.toNatClampNeg z2) → ∀ y8 : Int32, y8 = x3 + 1 → K2 y8 u7
def wp_X6_spread_c9_L2 (x1 : Int32) (x2 : Int32) (post : WU → Prop) : Nat → Int32 → WU → Prop
  | 0, _, _ => False
  | n + 1, x3, u =>
  ((4 ≤ x3 → post u) ∧ (¬ 4 ≤ x3 → vp_in x3 4 ∧ ∀ y1 : Int64, y1 = (u.2 0 x3.toNatClampNeg) &&& ((jshl 1 x1) ^^^ (-1)) → wp_X8_holds x2.toInt64 x3 (fun r2 => ((r2 = 0 → wp_X6_spread_c9_J43 x1 x2 x3 x3 y1 u post (fun (y3 : Int32) (u4 : WU) => wp_X6_spread_c9_L2 x1 x2 post n y3 u4)) ∧ (¬ r2 = 0 → wp_X6_spread_c9_J43 x1 x2 x3 x3 (y1 ||| (jshl 1 x1)) u post (fun (y5 : Int32) (u6 : WU) => wp_X6_spread_c9_L2 x1 x2 post n y5 u6))))))
def wp_X6_spread_c9 (x1 : Int32) (x2 : Int32) (u : WU) (post : WU → Prop) : Prop :=
  ∃ nn : Nat, wp_X6_spread_c9_L2 x1 x2 post nn 0 u
abbrev rm_X6_spread : Room := { frames := 1, cells := 0, slots := 0, locals := 22 }
def wp_X6_spread_c10_J43 (x1 : Int32) (x2 : Int32) (x3 : Int32) (z1 : Int32) (z2 : Int64) (u : WU) (post : WU → Prop) (K2 : Int32 → WU → Prop) : Prop :=
  vp_in z1 4 ∧ ∀ u7 : WU, u7 = uJ u 1 (vp_updL (u.2 1) z1.toNatClampNeg z2) → ∀ y8 : Int32, y8 = x3 + 1 → K2 y8 u7
def wp_X6_spread_c10_L2 (x1 : Int32) (x2 : Int32) (post : WU → Prop) : Nat → Int32 → WU → Prop
  | 0, _, _ => False
  | n + 1, x3, u =>
  ((4 ≤ x3 → post u) ∧ (¬ 4 ≤ x3 → vp_in x3 4 ∧ ∀ y1 : Int64, y1 = (u.2 1 x3.toNatClampNeg) &&& ((jshl 1 x1) ^^^ (-1)) → wp_X8_holds x2.toInt64 x3 (fun r2 => ((r2 = 0 → wp_X6_spread_c10_J43 x1 x2 x3 x3 y1 u post (fun (y3 : Int32) (u4 : WU) => wp_X6_spread_c10_L2 x1 x2 post n y3 u4)) ∧ (¬ r2 = 0 → wp_X6_spread_c10_J43 x1 x2 x3 x3 (y1 ||| (jshl 1 x1)) u post (fun (y5 : Int32) (u6 : WU) => wp_X6_spread_c10_L2 x1 x2 post n y5 u6))))))
def wp_X6_spread_c10 (x1 : Int32) (x2 : Int32) (u : WU) (post : WU → Prop) : Prop :=
  ∃ nn : Nat, wp_X6_spread_c10_L2 x1 x2 post nn 0 u
def wp_X6_tellAsk (x1 : Int32) (x2 : Int32) (x3 : Int32) (u : WU) (post : WU → Prop) : Prop :=
  wp_X6_spread_c9 x1 x2 u (fun u1 => wp_X6_spread_c10 x1 x3 u1 (fun u2 => post u2))
abbrev rm_X6_tellAsk : Room := { frames := 2, cells := 0, slots := 0, locals := 47 }
def wp_X8_asks (x1 : Int32) (x2 : Int32) (x3 : Int32) (x4 : Int32) (u : WU) (post : Int32 → WU → Prop) : Prop :=
  wp_X8_isPair x1 x2 (fun r1 => ((r1 = 0 → post 0 u) ∧ (¬ r1 = 0 → wp_X8_within x3 16 (fun r2 => ((r2 = 0 → post 0 u) ∧ (¬ r2 = 0 → wp_X8_within x4 16 (fun r3 => ((¬ r3 = 0 → wp_X8_pairOf x1 x2 (fun r4 => wp_X6_tellAsk r4 x3 x4 u (fun u5 => post 1 u5))) ∧ (r3 = 0 → post 0 u)))))))))
abbrev rm_X8_asks : Room := { frames := 3, cells := 0, slots := 0, locals := 70 }
def wp_X9_bit (x0 : Int32) (x1 : Int32) (post : Int64 → Prop) : Prop :=
  post (jshl 1 ((8 * x0) + x1))
abbrev rm_X9_bit : Room := { frames := 0, cells := 0, slots := 0, locals := 0 }
def wp_X9_lies (x0 : Int32) (x1 : Int32) (x2 : Int32) (post : Int32 → Prop) : Prop :=
  ((x0 < x1 → post 0) ∧ (¬ x0 < x1 → ((x2 < x0 → post 0) ∧ (¬ x2 < x0 → post 1))))
abbrev rm_X9_lies : Room := { frames := 0, cells := 0, slots := 0, locals := 0 }
def wp_X9_isLicence (x0 : Int32) (post : Int32 → Prop) : Prop :=
  wp_X9_lies x0 0 7 (fun r1 => bl r1 ∧ post r1)
abbrev rm_X9_isLicence : Room := { frames := 1, cells := 0, slots := 0, locals := 22 }
def wp_X9_asks_J140 (x1 : Int32) (x2 : Int32) (x3 : Int32) (x4 : Int32) (x5 : Int32) (u : WU) (post : Int32 → WU → Prop) (K43 : Int32 → WU → Prop) : Prop :=
  ∀ y15 : Int32, y15 = x5 + 1 → K43 y15 u
def wp_X9_asks_J95 (x1 : Int32) (x2 : Int32) (x3 : Int32) (x4 : Int32) (x5 : Int32) (u : WU) (post : Int32 → WU → Prop) (K43 : Int32 → WU → Prop) : Prop :=
  vp_in x5 4 ∧ wp_X9_bit x1 x2 (fun r7 => vp_in x5 4 ∧ ∀ u8 : WU, u8 = uJ u 0 (vp_updL (u.2 0) x5.toNatClampNeg ((u.2 0 x5.toNatClampNeg) &&& (r7 ^^^ (-1)))) → ((¬ ((x4 >>> (x5 &&& 31)) &&& 1) = 1 → wp_X9_asks_J140 x1 x2 x3 x4 x5 u8 post (fun (y9 : Int32) (u10 : WU) => K43 y9 u10)) ∧ (((x4 >>> (x5 &&& 31)) &&& 1) = 1 → vp_in x5 4 ∧ wp_X9_bit x1 x2 (fun r11 => vp_in x5 4 ∧ ∀ u12 : WU, u12 = uJ u8 0 (vp_updL (u8.2 0) x5.toNatClampNeg ((u8.2 0 x5.toNatClampNeg) ||| r11)) → wp_X9_asks_J140 x1 x2 x3 x4 x5 u12 post (fun (y13 : Int32) (u14 : WU) => K43 y13 u14)))))
def wp_X9_asks_L43 (x1 : Int32) (x2 : Int32) (x3 : Int32) (x4 : Int32) (post : Int32 → WU → Prop) : Nat → Int32 → WU → Prop
  | 0, _, _ => False
  | n + 1, x5, u =>
  ((4 ≤ x5 → post 1 u) ∧ (¬ 4 ≤ x5 → vp_in ((4 * x1) + x5) 32 ∧ vp_in ((4 * x1) + x5) 32 ∧ ∀ u1 : WU, u1 = uI u 0 (upd (u.1 0) ((4 * x1) + x5).toNatClampNeg ((u.1 0 ((4 * x1) + x5).toNatClampNeg) &&& ((1 <<< (x2 &&& 31)) ^^^ (-1)))) → ((¬ ((x3 >>> (x5 &&& 31)) &&& 1) = 1 → wp_X9_asks_J95 x1 x2 x3 x4 x5 u1 post (fun (y2 : Int32) (u3 : WU) => wp_X9_asks_L43 x1 x2 x3 x4 post n y2 u3)) ∧ (((x3 >>> (x5 &&& 31)) &&& 1) = 1 → vp_in ((4 * x1) + x5) 32 ∧ vp_in ((4 * x1) + x5) 32 ∧ ∀ u4 : WU, u4 = uI u1 0 (upd (u1.1 0) ((4 * x1) + x5).toNatClampNeg ((u1.1 0 ((4 * x1) + x5).toNatClampNeg) ||| (1 <<< (x2 &&& 31)))) → wp_X9_asks_J95 x1 x2 x3 x4 x5 u4 post (fun (y5 : Int32) (u6 : WU) => wp_X9_asks_L43 x1 x2 x3 x4 post n y5 u6)))))
def wp_X9_asks (x1 : Int32) (x2 : Int32) (x3 : Int32) (x4 : Int32) (u : WU) (post : Int32 → WU → Prop) : Prop :=
  wp_X9_isLicence x1 (fun r16 => ((r16 = 0 → post 0 u) ∧ (¬ r16 = 0 → wp_X9_lies x2 0 7 (fun r17 => ((r17 = 0 → post 0 u) ∧ (¬ r17 = 0 → wp_X9_lies x3 0 15 (fun r18 => ((r18 = 0 → post 0 u) ∧ (¬ r18 = 0 → wp_X9_lies x4 0 15 (fun r19 => ((¬ r19 = 0 → ∃ nn : Nat, wp_X9_asks_L43 x1 x2 x3 x4 post nn 0 u) ∧ (r19 = 0 → post 0 u))))))))))))
abbrev rm_X9_asks : Room := { frames := 2, cells := 0, slots := 0, locals := 42 }
def wp_X6_tellBars_J30 (x1 : Int32) (x2 : Int32) (x3 : Int64) (x5 : Int32) (u : WU) (post : WU → Prop) (K5 : Int64 → Int32 → WU → Prop) : Prop :=
  ∀ y10 : Int32, y10 = x5 + 1 → K5 x3 y10 u
def wp_X6_tellBars_L5 (x1 : Int32) (x2 : Int32) (post : WU → Prop) : Nat → Int64 → Int32 → WU → Prop
  | 0, _, _, _ => False
  | n + 1, x3, x5, u =>
  ((8 ≤ x5 → vp_in x1 8 ∧ ∀ u1 : WU, u1 = uJ u 2 (vp_updL (u.2 2) x1.toNatClampNeg x3) → post u1) ∧ (¬ 8 ≤ x5 → ((x5 = x1 → wp_X6_tellBars_J30 x1 x2 x3 x5 u post (fun (y2 : Int64) (y3 : Int32) (u4 : WU) => wp_X6_tellBars_L5 x1 x2 post n y2 y3 u4)) ∧ (¬ x5 = x1 → wp_X8_pairOf x5 0 (fun r5 => ∀ y6 : Int64, y6 = x3 ||| (jshl x2.toInt64 r5) → wp_X6_tellBars_J30 x1 x2 y6 x5 u post (fun (y7 : Int64) (y8 : Int32) (u9 : WU) => wp_X6_tellBars_L5 x1 x2 post n y7 y8 u9))))))
def wp_X6_tellBars (x1 : Int32) (x2 : Int32) (u : WU) (post : WU → Prop) : Prop :=
  ∃ nn : Nat, wp_X6_tellBars_L5 x1 x2 post nn 0 0 u
abbrev rm_X6_tellBars : Room := { frames := 1, cells := 0, slots := 0, locals := 21 }
def wp_X8_bars (x1 : Int32) (x2 : Int32) (u : WU) (post : Int32 → WU → Prop) : Prop :=
  wp_X8_within x1 8 (fun r1 => ((r1 = 0 → post 0 u) ∧ (¬ r1 = 0 → wp_X8_within x2 256 (fun r2 => ((¬ r2 = 0 → wp_X6_tellBars x1 x2 u (fun u3 => post 1 u3)) ∧ (r2 = 0 → post 0 u))))))
abbrev rm_X8_bars : Room := { frames := 2, cells := 0, slots := 0, locals := 46 }
def wp_X9_bars (x1 : Int32) (x2 : Int32) (u : WU) (post : Int32 → WU → Prop) : Prop :=
  wp_X9_isLicence x1 (fun r1 => ((r1 = 0 → post 0 u) ∧ (¬ r1 = 0 → wp_X9_lies x2 0 255 (fun r2 => ((¬ r2 = 0 → vp_in x1 8 ∧ ∀ u3 : WU, u3 = uI u 1 (upd (u.1 1) x1.toNatClampNeg x2) → post 1 u3) ∧ (r2 = 0 → post 0 u))))))
abbrev rm_X9_bars : Room := { frames := 2, cells := 0, slots := 0, locals := 42 }
def wp_X8_isRowOfChoices (x0 : Int32) (x1 : Int32) (x2 : Int32) (post : Int32 → Prop) : Prop :=
  wp_X8_within x0 8 (fun r1 => ((¬ r1 = 0 → ((¬ x1 = (-1) → wp_X8_within x1 8 (fun r2 => ((r2 = 0 → post 0) ∧ (¬ r2 = 0 → ((¬ x0 = x1 → ((x2 = (-1) → post 1) ∧ (¬ x2 = (-1) → wp_X8_within x2 8 (fun r3 => ((r3 = 0 → post 0) ∧ (¬ r3 = 0 → ((x2 = x0 → post 0) ∧ (¬ x2 = x0 → ((x2 = x1 → post 0) ∧ (¬ x2 = x1 → post 1)))))))))) ∧ (x0 = x1 → post 0)))))) ∧ (x1 = (-1) → ((¬ x2 = (-1) → post 0) ∧ (x2 = (-1) → post 1))))) ∧ (r1 = 0 → post 0)))
abbrev rm_X8_isRowOfChoices : Room := { frames := 1, cells := 0, slots := 0, locals := 21 }
def wp_X5_add_J75 (x1 : Int32) (x4 : Int32) (z1 : Int32) (z2 : Int32) (u : WU) (post : Int32 → WU → Prop) : Prop :=
  vp_in z1 24 ∧ ∀ u1 : WU, u1 = uI u 1 (upd (u.1 1) z1.toNatClampNeg z2) → vp_in x4 24 ∧ ∀ u2 : WU, u2 = uI u1 2 (upd (u1.1 2) x4.toNatClampNeg x1) → post x4 u2
def wp_X5_add (x1 : Int32) (x2 : Int32) (x3 : Int32) (u : WU) (post : Int32 → WU → Prop) : Prop :=
  ∀ y3 : Int32, y3 = u.1 20 0 → ∀ u4 : WU, u4 = uI u 20 (fun _ => (u.1 20 0) + 1) → vp_in (y3 * 3) 72 ∧ ∀ u5 : WU, u5 = uI u4 0 (upd (u4.1 0) (y3 * 3).toNatClampNeg x1) → vp_in ((y3 * 3) + 1) 72 ∧ ∀ u6 : WU, u6 = uI u5 0 (upd (u5.1 0) ((y3 * 3) + 1).toNatClampNeg x2) → vp_in ((y3 * 3) + 2) 72 ∧ ∀ u7 : WU, u7 = uI u6 0 (upd (u6.1 0) ((y3 * 3) + 2).toNatClampNeg x3) → ((¬ x2 = (-1) → ((¬ x3 = (-1) → wp_X5_add_J75 x1 y3 y3 3 u7 post) ∧ (x3 = (-1) → wp_X5_add_J75 x1 y3 y3 2 u7 post))) ∧ (x2 = (-1) → wp_X5_add_J75 x1 y3 y3 1 u7 post))
abbrev rm_X5_add : Room := { frames := 0, cells := 0, slots := 0, locals := 0 }
def wp_X8_part (x1 : Int32) (x2 : Int32) (x3 : Int32) (u : WU) (post : Int32 → WU → Prop) : Prop :=
  wp_X8_isRowOfChoices x1 x2 x3 (fun r1 => ((r1 = 0 → post (-1) u) ∧ (¬ r1 = 0 → (((u.1 20 0) < 24 → wp_X5_add x1 x2 x3 u (fun r3 u2 => post r3 u2)) ∧ (¬ (u.1 20 0) < 24 → post (-1) u)))))
abbrev rm_X8_part : Room := { frames := 2, cells := 0, slots := 0, locals := 43 }
def wp_X9_part_J136  (z1 : Int32) (z2 : Int32) (u : WU) (post : Int32 → WU → Prop) : Prop :=
  vp_in z1 24 ∧ ∀ u6 : WU, u6 = uI u 3 (upd (u.1 3) z1.toNatClampNeg z2) → ∀ u7 : WU, u7 = uI u6 21 (fun _ => (u6.1 21 0) + 1) → post ((u7.1 21 0) - 1) u7
def wp_X9_part_J69 (x1 : Int32) (x2 : Int32) (x3 : Int32) (u : WU) (post : Int32 → WU → Prop) : Prop :=
  vp_in (3 * (u.1 21 0)) 72 ∧ ∀ u3 : WU, u3 = uI u 2 (upd (u.1 2) (3 * (u.1 21 0)).toNatClampNeg x1) → vp_in ((3 * (u3.1 21 0)) + 1) 72 ∧ ∀ u4 : WU, u4 = uI u3 2 (upd (u3.1 2) ((3 * (u3.1 21 0)) + 1).toNatClampNeg x2) → vp_in ((3 * (u4.1 21 0)) + 2) 72 ∧ ∀ u5 : WU, u5 = uI u4 2 (upd (u4.1 2) ((3 * (u4.1 21 0)) + 2).toNatClampNeg x3) → ((¬ x2 = (-1) → ((¬ x3 = (-1) → wp_X9_part_J136 (u5.1 21 0) 3 u5 post) ∧ (x3 = (-1) → wp_X9_part_J136 (u5.1 21 0) 2 u5 post))) ∧ (x2 = (-1) → wp_X9_part_J136 (u5.1 21 0) 1 u5 post))
def wp_X9_part_J45 (x1 : Int32) (x2 : Int32) (x3 : Int32) (u : WU) (post : Int32 → WU → Prop) : Prop :=
  ((x3 = (-1) → wp_X9_part_J69 x1 x2 x3 u post) ∧ (¬ x3 = (-1) → wp_X9_isLicence x3 (fun r2 => ((r2 = 0 → post (-1) u) ∧ (¬ r2 = 0 → ((x3 = x1 → post (-1) u) ∧ (¬ x3 = x1 → ((¬ x3 = x2 → wp_X9_part_J69 x1 x2 x3 u post) ∧ (x3 = x2 → post (-1) u)))))))))
def wp_X9_part_J28 (x1 : Int32) (x2 : Int32) (x3 : Int32) (u : WU) (post : Int32 → WU → Prop) : Prop :=
  ((x2 = (-1) → wp_X9_part_J45 x1 x2 x3 u post) ∧ (¬ x2 = (-1) → wp_X9_isLicence x2 (fun r1 => ((r1 = 0 → post (-1) u) ∧ (¬ r1 = 0 → ((x2 = x1 → post (-1) u) ∧ (¬ x2 = x1 → wp_X9_part_J45 x1 x2 x3 u post)))))))
def wp_X9_part (x1 : Int32) (x2 : Int32) (x3 : Int32) (u : WU) (post : Int32 → WU → Prop) : Prop :=
  (((u.1 21 0) = 24 → post (-1) u) ∧ (¬ (u.1 21 0) = 24 → wp_X9_isLicence x1 (fun r8 => ((r8 = 0 → post (-1) u) ∧ (¬ r8 = 0 → ((¬ x2 = (-1) → wp_X9_part_J28 x1 x2 x3 u post) ∧ (x2 = (-1) → ((x3 = (-1) → wp_X9_part_J28 x1 x2 x3 u post) ∧ (¬ x3 = (-1) → post (-1) u)))))))))
abbrev rm_X9_part : Room := { frames := 2, cells := 0, slots := 0, locals := 42 }
def wp_X5_has (x1 : Int32) (u : WU) (post : Int32 → Prop) : Prop :=
  wp_X8_within x1 (u.1 20 0) (fun r1 => bl r1 ∧ post r1)
abbrev rm_X5_has : Room := { frames := 1, cells := 0, slots := 0, locals := 21 }
def wp_X5_choiceOf (x1 : Int32) (x2 : Int32) (u : WU) (post : Int32 → Prop) : Prop :=
  vp_in ((x1 * 3) + x2) 72 ∧ post (u.1 0 ((x1 * 3) + x2).toNatClampNeg)
abbrev rm_X5_choiceOf : Room := { frames := 0, cells := 0, slots := 0, locals := 0 }
def wp_X8_take (x1 : Int32) (x2 : Int32) (u : WU) (post : Int32 → WU → Prop) : Prop :=
  wp_X5_has x1 u (fun r1 => ((r1 = 0 → post 0 u) ∧ (¬ r1 = 0 → vp_in x1 24 ∧ wp_X8_within x2 (u.1 1 x1.toNatClampNeg) (fun r2 => ((¬ r2 = 0 → wp_X5_choiceOf x1 x2 u (fun r3 => vp_in x1 24 ∧ ((¬ (u.1 2 x1.toNatClampNeg) = r3 → vp_in x1 24 ∧ ∀ u4 : WU, u4 = uI u 2 (upd (u.1 2) x1.toNatClampNeg r3) → post 1 u4) ∧ ((u.1 2 x1.toNatClampNeg) = r3 → post 0 u)))) ∧ (r2 = 0 → post 0 u))))))
abbrev rm_X8_take : Room := { frames := 2, cells := 0, slots := 0, locals := 42 }
def wp_X9_isPart (x1 : Int32) (u : WU) (post : Int32 → Prop) : Prop :=
  wp_X9_lies x1 0 ((u.1 21 0) - 1) (fun r1 => bl r1 ∧ post r1)
abbrev rm_X9_isPart : Room := { frames := 1, cells := 0, slots := 0, locals := 22 }
def wp_X9_take (x1 : Int32) (x2 : Int32) (u : WU) (post : Int32 → WU → Prop) : Prop :=
  wp_X9_isPart x1 u (fun r1 => ((r1 = 0 → post 0 u) ∧ (¬ r1 = 0 → vp_in x1 24 ∧ wp_X9_lies x2 0 ((u.1 3 x1.toNatClampNeg) - 1) (fun r2 => ((r2 = 0 → post 0 u) ∧ (¬ r2 = 0 → vp_in x1 24 ∧ ((¬ (u.1 4 x1.toNatClampNeg) = x2 → vp_in x1 24 ∧ ∀ u3 : WU, u3 = uI u 4 (upd (u.1 4) x1.toNatClampNeg x2) → post 1 u3) ∧ ((u.1 4 x1.toNatClampNeg) = x2 → post 0 u))))))))
abbrev rm_X9_take : Room := { frames := 2, cells := 0, slots := 0, locals := 43 }
def wp_X3_leads_L7 (x1 : Int32) (x2 : Int32) (u : WU) (post : Int32 → Prop) : Nat → Int32 → Prop
  | 0, _ => False
  | n + 1, x3 =>
  vp_in x2 24 ∧ (((u.1 9 x2.toNatClampNeg) ≤ x3 → post 0) ∧ (¬ (u.1 9 x2.toNatClampNeg) ≤ x3 → vp_in x3 40 ∧ vp_in (u.1 7 x3.toNatClampNeg) 40 ∧ ((¬ (u.1 3 (u.1 7 x3.toNatClampNeg).toNatClampNeg) = x1 → ∀ y1 : Int32, y1 = x3 + 1 → wp_X3_leads_L7 x1 x2 u post n y1) ∧ ((u.1 3 (u.1 7 x3.toNatClampNeg).toNatClampNeg) = x1 → post 1))))
def wp_X3_leads (x1 : Int32) (x2 : Int32) (u : WU) (post : Int32 → Prop) : Prop :=
  vp_in x2 24 ∧ ∀ y2 : Int32, y2 = u.1 8 x2.toNatClampNeg → ∃ nn : Nat, wp_X3_leads_L7 x1 x2 u post nn y2
abbrev rm_X3_leads : Room := { frames := 0, cells := 0, slots := 0, locals := 0 }
def wp_X3_allIn_J96 (x2 : Int64) (x4 : Int32) (x5 : Int32) (u : WU) (post : Int32 → Prop) (K9 : Int32 → Int32 → Prop) : Prop :=
  ∀ y17 : Int32, y17 = x5 + (-1) → K9 x4 y17
def wp_X3_allIn_J90 (x2 : Int64) (x4 : Int32) (x5 : Int32) (x6 : Int32) (x7 : Int32) (u : WU) (post : Int32 → Prop) (K46 : Int32 → Int32 → Prop) : Prop :=
  ∀ y16 : Int32, y16 = x7 + 1 → K46 x4 y16
def wp_X3_allIn_L46 (x2 : Int64) (x5 : Int32) (x6 : Int32) (u : WU) (post : Int32 → Prop) (K96 : Int32 → Prop) : Nat → Int32 → Int32 → Prop
  | 0, _, _ => False
  | n + 1, x4, x7 =>
  vp_in x6 24 ∧ (((u.1 9 x6.toNatClampNeg) ≤ x7 → K96 x4) ∧ (¬ (u.1 9 x6.toNatClampNeg) ≤ x7 → vp_in x7 40 ∧ ∀ y9 : Int32, y9 = u.1 7 x7.toNatClampNeg → wp_X8_holds x2 y9 (fun r10 => ((r10 = 0 → wp_X3_allIn_J90 x2 x4 x5 x6 x7 u post (fun (y11 : Int32) (y12 : Int32) => wp_X3_allIn_L46 x2 x5 x6 u post K96 n y11 y12)) ∧ (¬ r10 = 0 → vp_in y9 40 ∧ ∀ y13 : Int32, y13 = x4 ||| (1 <<< ((u.1 3 y9.toNatClampNeg) &&& 31)) → wp_X3_allIn_J90 x2 y13 x5 x6 x7 u post (fun (y14 : Int32) (y15 : Int32) => wp_X3_allIn_L46 x2 x5 x6 u post K96 n y14 y15))))))
def wp_X3_allIn_L9 (x2 : Int64) (u : WU) (post : Int32 → Prop) : Nat → Int32 → Int32 → Prop
  | 0, _, _ => False
  | n + 1, x4, x5 =>
  ((x5 < 0 → post x4) ∧ (¬ x5 < 0 → vp_in x5 24 ∧ ∀ y1 : Int32, y1 = u.1 6 x5.toNatClampNeg → wp_X8_holds x4.toInt64 y1 (fun r2 => ((¬ r2 = 0 → vp_in y1 24 ∧ ∀ y3 : Int32, y3 = u.1 8 y1.toNatClampNeg → ∃ nn : Nat, wp_X3_allIn_L46 x2 x5 y1 u post (fun (y4 : Int32) => wp_X3_allIn_J96 x2 y4 x5 u post (fun (y5 : Int32) (y6 : Int32) => wp_X3_allIn_L9 x2 u post n y5 y6)) nn x4 y3) ∧ (r2 = 0 → wp_X3_allIn_J96 x2 x4 x5 u post (fun (y7 : Int32) (y8 : Int32) => wp_X3_allIn_L9 x2 u post n y7 y8))))))
def wp_X3_allIn (x1 : Int32) (x2 : Int64) (u : WU) (post : Int32 → Prop) : Prop :=
  ∀ y18 : Int32, y18 = 1 <<< (x1 &&& 31) → ∃ nn : Nat, wp_X3_allIn_L9 x2 u post nn y18 23
abbrev rm_X3_allIn : Room := { frames := 1, cells := 0, slots := 0, locals := 22 }
def wp_X3_sortJoins_J64 (x1 : Int32) (x2 : Int32) (x3 : Int32) (u : WU) (post : WU → Prop) (K19 : Int32 → Int32 → WU → Prop) : Prop :=
  ∀ y21 : Int32, y21 = x3 + 1 → K19 x1 y21 u
def wp_X3_sortJoins_L19 (x2 : Int32) (post : WU → Prop) (K70 : Int32 → WU → Prop) : Nat → Int32 → Int32 → WU → Prop
  | 0, _, _, _ => False
  | n + 1, x1, x3, u =>
  (((u.1 22 0) ≤ x3 → K70 x1 u) ∧ (¬ (u.1 22 0) ≤ x3 → vp_in x3 40 ∧ ((¬ (u.1 4 x3.toNatClampNeg) = x2 → wp_X3_sortJoins_J64 x1 x2 x3 u post (fun (y6 : Int32) (y7 : Int32) (u8 : WU) => wp_X3_sortJoins_L19 x2 post K70 n y6 y7 u8)) ∧ ((u.1 4 x3.toNatClampNeg) = x2 → wp_X8_holds (u.2 6 0) x3 (fun r9 => ((r9 = 0 → wp_X3_sortJoins_J64 x1 x2 x3 u post (fun (y10 : Int32) (y11 : Int32) (u12 : WU) => wp_X3_sortJoins_L19 x2 post K70 n y10 y11 u12)) ∧ (¬ r9 = 0 → ((40 ≤ x1 → wp_X3_sortJoins_J64 x1 x2 x3 u post (fun (y13 : Int32) (y14 : Int32) (u15 : WU) => wp_X3_sortJoins_L19 x2 post K70 n y13 y14 u15)) ∧ (¬ 40 ≤ x1 → vp_in x1 40 ∧ ∀ u16 : WU, u16 = uI u 7 (upd (u.1 7) x1.toNatClampNeg x3) → ∀ y17 : Int32, y17 = x1 + 1 → wp_X3_sortJoins_J64 y17 x2 x3 u16 post (fun (y18 : Int32) (y19 : Int32) (u20 : WU) => wp_X3_sortJoins_L19 x2 post K70 n y18 y19 u20))))))))))
def wp_X3_sortJoins_L4  (post : WU → Prop) : Nat → Int32 → Int32 → WU → Prop
  | 0, _, _, _ => False
  | n + 1, x1, x2, u =>
  ((24 ≤ x2 → post u) ∧ (¬ 24 ≤ x2 → vp_in x2 24 ∧ ∀ u1 : WU, u1 = uI u 8 (upd (u.1 8) x2.toNatClampNeg x1) → ∃ nn : Nat, wp_X3_sortJoins_L19 x2 post (fun (y2 : Int32) (u3 : WU) => vp_in x2 24 ∧ ∀ u4 : WU, u4 = uI u3 9 (upd (u3.1 9) x2.toNatClampNeg y2) → ∀ y5 : Int32, y5 = x2 + 1 → wp_X3_sortJoins_L4 post n y2 y5 u4) nn x1 0 u1))
def wp_X3_sortJoins  (u : WU) (post : WU → Prop) : Prop :=
  ∃ nn : Nat, wp_X3_sortJoins_L4 post nn 0 0 u
abbrev rm_X3_sortJoins : Room := { frames := 1, cells := 0, slots := 0, locals := 22 }
def wp_X3_directlyIn_L9 (x1 : Int32) (u : WU) (post : Int32 → Prop) : Nat → Int32 → Int32 → Prop
  | 0, _, _ => False
  | n + 1, x2, x3 =>
  vp_in x1 24 ∧ (((u.1 9 x1.toNatClampNeg) ≤ x3 → post x2) ∧ (¬ (u.1 9 x1.toNatClampNeg) ≤ x3 → vp_in x3 40 ∧ vp_in (u.1 7 x3.toNatClampNeg) 40 ∧ ∀ y1 : Int32, y1 = x2 ||| (1 <<< ((u.1 3 (u.1 7 x3.toNatClampNeg).toNatClampNeg) &&& 31)) → ∀ y2 : Int32, y2 = x3 + 1 → wp_X3_directlyIn_L9 x1 u post n y1 y2))
def wp_X3_directlyIn (x1 : Int32) (u : WU) (post : Int32 → Prop) : Prop :=
  vp_in x1 24 ∧ ∀ y3 : Int32, y3 = u.1 8 x1.toNatClampNeg → ∃ nn : Nat, wp_X3_directlyIn_L9 x1 u post nn 0 y3
abbrev rm_X3_directlyIn : Room := { frames := 0, cells := 0, slots := 0, locals := 0 }
def wp_X3_orderParts_J81 (x1 : Int32) (x2 : Int32) (x3 : Int32) (u : WU) (post : WU → Prop) (K6 : Int32 → Int32 → Int32 → WU → Prop) : Prop :=
  ∀ y26 : Int32, y26 = x3 + 1 → K6 x1 x2 y26 u
def wp_X3_orderParts_J75 (x1 : Int32) (x2 : Int32) (x3 : Int32) (x4 : Int32) (u : WU) (post : WU → Prop) (K21 : Int32 → Int32 → Int32 → WU → Prop) : Prop :=
  ∀ y25 : Int32, y25 = x4 + 1 → K21 x1 x2 y25 u
def wp_X3_orderParts_L21 (x3 : Int32) (post : WU → Prop) (K81 : Int32 → Int32 → WU → Prop) : Nat → Int32 → Int32 → Int32 → WU → Prop
  | 0, _, _, _, _ => False
  | n + 1, x1, x2, x4, u =>
  ((24 ≤ x4 → K81 x1 x2 u) ∧ (¬ 24 ≤ x4 → ((24 ≤ x2 → K81 x1 x2 u) ∧ (¬ 24 ≤ x2 → wp_X8_holds x1.toInt64 x4 (fun r8 => ((¬ r8 = 0 → wp_X3_orderParts_J75 x1 x2 x3 x4 u post (fun (y9 : Int32) (y10 : Int32) (y11 : Int32) (u12 : WU) => wp_X3_orderParts_L21 x3 post K81 n y9 y10 y11 u12)) ∧ (r8 = 0 → wp_X3_directlyIn x4 u (fun r13 => ((¬ (r13 &&& (x1 ^^^ (-1))) = 0 → wp_X3_orderParts_J75 x1 x2 x3 x4 u post (fun (y14 : Int32) (y15 : Int32) (y16 : Int32) (u17 : WU) => wp_X3_orderParts_L21 x3 post K81 n y14 y15 y16 u17)) ∧ ((r13 &&& (x1 ^^^ (-1))) = 0 → vp_in x2 24 ∧ ∀ u18 : WU, u18 = uI u 6 (upd (u.1 6) x2.toNatClampNeg x4) → ∀ y19 : Int32, y19 = x2 + 1 → ∀ y20 : Int32, y20 = x1 ||| (1 <<< (x4 &&& 31)) → wp_X3_orderParts_J75 y20 y19 x3 x4 u18 post (fun (y21 : Int32) (y22 : Int32) (y23 : Int32) (u24 : WU) => wp_X3_orderParts_L21 x3 post K81 n y21 y22 y23 u24)))))))))))
def wp_X3_orderParts_L6  (post : WU → Prop) : Nat → Int32 → Int32 → Int32 → WU → Prop
  | 0, _, _, _, _ => False
  | n + 1, x1, x2, x3, u =>
  ((24 ≤ x3 → post u) ∧ (¬ 24 ≤ x3 → ((24 ≤ x2 → post u) ∧ (¬ 24 ≤ x2 → ∃ nn : Nat, wp_X3_orderParts_L21 x3 post (fun (y1 : Int32) (y2 : Int32) (u3 : WU) => wp_X3_orderParts_J81 y1 y2 x3 u3 post (fun (y4 : Int32) (y5 : Int32) (y6 : Int32) (u7 : WU) => wp_X3_orderParts_L6 post n y4 y5 y6 u7)) nn x1 x2 0 u))))
def wp_X3_orderParts  (u : WU) (post : WU → Prop) : Prop :=
  ∃ nn : Nat, wp_X3_orderParts_L6 post nn 0 0 0 u
abbrev rm_X3_orderParts : Room := { frames := 1, cells := 0, slots := 0, locals := 23 }
def wp_X3_add (x1 : Int32) (x2 : Int32) (x3 : Int32) (u : WU) (post : Int32 → WU → Prop) : Prop :=
  ∀ y1 : Int32, y1 = u.1 22 0 → ∀ u2 : WU, u2 = uI u 22 (fun _ => (u.1 22 0) + 1) → vp_in y1 40 ∧ ∀ u3 : WU, u3 = uI u2 3 (upd (u2.1 3) y1.toNatClampNeg x1) → vp_in y1 40 ∧ ∀ u4 : WU, u4 = uI u3 4 (upd (u3.1 4) y1.toNatClampNeg x2) → vp_in y1 40 ∧ ∀ u5 : WU, u5 = uI u4 5 (upd (u4.1 5) y1.toNatClampNeg x3) → ∀ u6 : WU, u6 = uJ u5 6 (fun _ => (u5.2 6 0) ||| (jshl 1 y1)) → wp_X3_sortJoins u6 (fun u7 => wp_X3_orderParts u7 (fun u8 => post y1 u8))
abbrev rm_X3_add : Room := { frames := 2, cells := 0, slots := 0, locals := 47 }
def wp_X8_join (x1 : Int32) (x2 : Int32) (x3 : Int32) (u : WU) (post : Int32 → WU → Prop) : Prop :=
  wp_X5_has x1 u (fun r1 => ((r1 = 0 → post (-1) u) ∧ (¬ r1 = 0 → wp_X5_has x2 u (fun r2 => ((r2 = 0 → post (-1) u) ∧ (¬ r2 = 0 → wp_X8_within x3 4 (fun r3 => ((r3 = 0 → post (-1) u) ∧ (¬ r3 = 0 → (((u.1 22 0) < 40 → wp_X3_leads x1 x2 u (fun r4 => ((¬ r4 = 0 → post (-1) u) ∧ (r4 = 0 → wp_X3_allIn x1 (u.2 6 0) u (fun r5 => wp_X8_holds r5.toInt64 x2 (fun r6 => ((r6 = 0 → wp_X3_add x1 x2 x3 u (fun r8 u7 => post r8 u7)) ∧ (¬ r6 = 0 → post (-1) u)))))))) ∧ (¬ (u.1 22 0) < 40 → post (-1) u)))))))))))
abbrev rm_X8_join : Room := { frames := 3, cells := 0, slots := 0, locals := 71 }
def wp_X9_asItIs_L2  (post : WU → Prop) (K28 : WU → Prop) : Nat → Int32 → WU → Prop
  | 0, _, _ => False
  | n + 1, x1, u =>
  (((u.1 23 0) ≤ x1 → K28 u) ∧ (¬ (u.1 23 0) ≤ x1 → vp_in x1 40 ∧ vp_in x1 40 ∧ ∀ u1 : WU, u1 = uI u 14 (upd (u.1 14) x1.toNatClampNeg (vp_nar .boolean (u.1 8 x1.toNatClampNeg))) → ∀ y2 : Int32, y2 = x1 + 1 → wp_X9_asItIs_L2 post K28 n y2 u1))
def wp_X9_asItIs_L30  (post : WU → Prop) : Nat → Int32 → WU → Prop
  | 0, _, _ => False
  | n + 1, x1, u =>
  (((u.1 21 0) ≤ x1 → post u) ∧ (¬ (u.1 21 0) ≤ x1 → vp_in x1 24 ∧ vp_in ((3 * x1) + (u.1 4 x1.toNatClampNeg)) 72 ∧ vp_in x1 24 ∧ ∀ u3 : WU, u3 = uI u 15 (upd (u.1 15) x1.toNatClampNeg (u.1 2 ((3 * x1) + (u.1 4 x1.toNatClampNeg)).toNatClampNeg)) → ∀ y4 : Int32, y4 = x1 + 1 → wp_X9_asItIs_L30 post n y4 u3))
def wp_X9_asItIs  (u : WU) (post : WU → Prop) : Prop :=
  ∃ nn : Nat, wp_X9_asItIs_L2 post (fun (u5 : WU) => ∃ nn : Nat, wp_X9_asItIs_L30 post nn 0 u5) nn 0 u
abbrev rm_X9_asItIs : Room := { frames := 0, cells := 0, slots := 0, locals := 0 }
def wp_X9_reaches_J23 (x1 : Int32) (x2 : Int32) (z1 : Int32) (z2 : Int32) (u : WU) (post : WU → Prop) (K2 : Int32 → WU → Prop) : Prop :=
  vp_in z1 24 ∧ ∀ u20 : WU, u20 = uI u 13 (upd (u.1 13) z1.toNatClampNeg (vp_nar .boolean z2)) → ∀ y21 : Int32, y21 = x2 + 1 → K2 y21 u20
def wp_X9_reaches_L2 (x1 : Int32) (post : WU → Prop) (K30 : WU → Prop) : Nat → Int32 → WU → Prop
  | 0, _, _ => False
  | n + 1, x2, u =>
  ((24 ≤ x2 → K30 u) ∧ (¬ 24 ≤ x2 → ((¬ x2 = x1 → wp_X9_reaches_J23 x1 x2 x2 0 u post (fun (y1 : Int32) (u2 : WU) => wp_X9_reaches_L2 x1 post K30 n y1 u2)) ∧ (x2 = x1 → wp_X9_reaches_J23 x1 x2 x2 1 u post (fun (y3 : Int32) (u4 : WU) => wp_X9_reaches_L2 x1 post K30 n y3 u4)))))
def wp_X9_reaches_J102 (x2 : Int32) (x3 : Int32) (u : WU) (post : WU → Prop) (K40 : Int32 → Int32 → WU → Prop) : Prop :=
  ∀ y22 : Int32, y22 = x3 + 1 → K40 x2 y22 u
def wp_X9_reaches_L40  (post : WU → Prop) (K108 : Int32 → WU → Prop) : Nat → Int32 → Int32 → WU → Prop
  | 0, _, _, _ => False
  | n + 1, x2, x3, u =>
  (((u.1 23 0) ≤ x3 → K108 x2 u) ∧ (¬ (u.1 23 0) ≤ x3 → vp_in x3 40 ∧ ((¬ (u.1 14 x3.toNatClampNeg) = 0 → wp_X9_reaches_J102 x2 x3 u post (fun (y7 : Int32) (y8 : Int32) (u9 : WU) => wp_X9_reaches_L40 post K108 n y7 y8 u9)) ∧ ((u.1 14 x3.toNatClampNeg) = 0 → vp_in x3 40 ∧ vp_in (u.1 6 x3.toNatClampNeg) 24 ∧ (((u.1 13 (u.1 6 x3.toNatClampNeg).toNatClampNeg) = 0 → wp_X9_reaches_J102 x2 x3 u post (fun (y10 : Int32) (y11 : Int32) (u12 : WU) => wp_X9_reaches_L40 post K108 n y10 y11 u12)) ∧ (¬ (u.1 13 (u.1 6 x3.toNatClampNeg).toNatClampNeg) = 0 → vp_in x3 40 ∧ vp_in (u.1 5 x3.toNatClampNeg) 24 ∧ (((u.1 13 (u.1 5 x3.toNatClampNeg).toNatClampNeg) = 0 → vp_in x3 40 ∧ vp_in (u.1 5 x3.toNatClampNeg) 24 ∧ ∀ u13 : WU, u13 = uI u 13 (upd (u.1 13) (u.1 5 x3.toNatClampNeg).toNatClampNeg (vp_nar .boolean 1)) → wp_X9_reaches_J102 1 x3 u13 post (fun (y14 : Int32) (y15 : Int32) (u16 : WU) => wp_X9_reaches_L40 post K108 n y14 y15 u16)) ∧ (¬ (u.1 13 (u.1 5 x3.toNatClampNeg).toNatClampNeg) = 0 → wp_X9_reaches_J102 x2 x3 u post (fun (y17 : Int32) (y18 : Int32) (u19 : WU) => wp_X9_reaches_L40 post K108 n y17 y18 u19)))))))))
def wp_X9_reaches_L32  (post : WU → Prop) : Nat → Int32 → WU → Prop
  | 0, _, _ => False
  | n + 1, x2, u =>
  ((x2 = 0 → post u) ∧ (¬ x2 = 0 → ∃ nn : Nat, wp_X9_reaches_L40 post (fun (y5 : Int32) (u6 : WU) => wp_X9_reaches_L32 post n y5 u6) nn 0 0 u))
def wp_X9_reaches (x1 : Int32) (u : WU) (post : WU → Prop) : Prop :=
  ∃ nn : Nat, wp_X9_reaches_L2 x1 post (fun (u23 : WU) => ∃ nn : Nat, wp_X9_reaches_L32 post nn 1 u23) nn 0 u
abbrev rm_X9_reaches : Room := { frames := 0, cells := 0, slots := 0, locals := 0 }
def wp_X9_join_J87 (x1 : Int32) (x2 : Int32) (x3 : Int32) (x4 : Int32) (u : WU) (post : Int32 → WU → Prop) (K44 : Int32 → WU → Prop) : Prop :=
  ∀ y7 : Int32, y7 = x4 + 1 → K44 y7 u
def wp_X9_join_L44 (x1 : Int32) (x2 : Int32) (x3 : Int32) (post : Int32 → WU → Prop) (K93 : WU → Prop) : Nat → Int32 → WU → Prop
  | 0, _, _ => False
  | n + 1, x4, u =>
  (((u.1 23 0) ≤ x4 → K93 u) ∧ (¬ (u.1 23 0) ≤ x4 → vp_in x4 40 ∧ ((¬ (u.1 8 x4.toNatClampNeg) = 0 → wp_X9_join_J87 x1 x2 x3 x4 u post (fun (y1 : Int32) (u2 : WU) => wp_X9_join_L44 x1 x2 x3 post K93 n y1 u2)) ∧ ((u.1 8 x4.toNatClampNeg) = 0 → vp_in x4 40 ∧ ((¬ (u.1 5 x4.toNatClampNeg) = x1 → wp_X9_join_J87 x1 x2 x3 x4 u post (fun (y3 : Int32) (u4 : WU) => wp_X9_join_L44 x1 x2 x3 post K93 n y3 u4)) ∧ ((u.1 5 x4.toNatClampNeg) = x1 → vp_in x4 40 ∧ ((¬ (u.1 6 x4.toNatClampNeg) = x2 → wp_X9_join_J87 x1 x2 x3 x4 u post (fun (y5 : Int32) (u6 : WU) => wp_X9_join_L44 x1 x2 x3 post K93 n y5 u6)) ∧ ((u.1 6 x4.toNatClampNeg) = x2 → post (-1) u))))))))
def wp_X9_join (x1 : Int32) (x2 : Int32) (x3 : Int32) (u : WU) (post : Int32 → WU → Prop) : Prop :=
  (((u.1 23 0) = 40 → post (-1) u) ∧ (¬ (u.1 23 0) = 40 → wp_X9_isPart x1 u (fun r8 => ((r8 = 0 → post (-1) u) ∧ (¬ r8 = 0 → wp_X9_isPart x2 u (fun r9 => ((r9 = 0 → post (-1) u) ∧ (¬ r9 = 0 → ((x1 = x2 → post (-1) u) ∧ (¬ x1 = x2 → wp_X9_lies x3 0 3 (fun r10 => ((¬ r10 = 0 → ∃ nn : Nat, wp_X9_join_L44 x1 x2 x3 post (fun (u11 : WU) => wp_X9_asItIs u11 (fun u12 => wp_X9_reaches x1 u12 (fun u13 => vp_in x2 24 ∧ (((u13.1 13 x2.toNatClampNeg) = 0 → vp_in (u13.1 23 0) 40 ∧ ∀ u14 : WU, u14 = uI u13 5 (upd (u13.1 5) (u13.1 23 0).toNatClampNeg x1) → vp_in (u14.1 23 0) 40 ∧ ∀ u15 : WU, u15 = uI u14 6 (upd (u14.1 6) (u14.1 23 0).toNatClampNeg x2) → vp_in (u15.1 23 0) 40 ∧ ∀ u16 : WU, u16 = uI u15 7 (upd (u15.1 7) (u15.1 23 0).toNatClampNeg x3) → ∀ u17 : WU, u17 = uI u16 23 (fun _ => (u16.1 23 0) + 1) → post ((u17.1 23 0) - 1) u17) ∧ (¬ (u13.1 13 x2.toNatClampNeg) = 0 → post (-1) u13))))) nn 0 u) ∧ (r10 = 0 → post (-1) u)))))))))))))
abbrev rm_X9_join : Room := { frames := 2, cells := 0, slots := 0, locals := 43 }
def wp_X3_isThere (x1 : Int32) (u : WU) (post : Int32 → Prop) : Prop :=
  wp_X8_within x1 (u.1 22 0) (fun r1 => ((r1 = 0 → post 0) ∧ (¬ r1 = 0 → wp_X8_holds (u.2 6 0) x1 (fun r2 => ((r2 = 0 → post 0) ∧ (¬ r2 = 0 → post 1))))))
abbrev rm_X3_isThere : Room := { frames := 1, cells := 0, slots := 0, locals := 22 }
def wp_X3_remove (x1 : Int32) (u : WU) (post : WU → Prop) : Prop :=
  ∀ u1 : WU, u1 = uJ u 6 (fun _ => (u.2 6 0) &&& ((jshl 1 x1) ^^^ (-1))) → wp_X3_sortJoins u1 (fun u2 => post u2)
abbrev rm_X3_remove : Room := { frames := 2, cells := 0, slots := 0, locals := 45 }
def wp_X8_cut (x1 : Int32) (u : WU) (post : Int32 → WU → Prop) : Prop :=
  wp_X3_isThere x1 u (fun r1 => ((¬ r1 = 0 → wp_X3_remove x1 u (fun u2 => post 1 u2)) ∧ (r1 = 0 → post 0 u)))
abbrev rm_X8_cut : Room := { frames := 3, cells := 0, slots := 0, locals := 66 }
def wp_X9_cut (x1 : Int32) (u : WU) (post : Int32 → WU → Prop) : Prop :=
  wp_X9_lies x1 0 ((u.1 23 0) - 1) (fun r1 => ((r1 = 0 → post 0 u) ∧ (¬ r1 = 0 → vp_in x1 40 ∧ (((u.1 8 x1.toNatClampNeg) = 0 → vp_in x1 40 ∧ ∀ u2 : WU, u2 = uI u 8 (upd (u.1 8) x1.toNatClampNeg (vp_nar .boolean 1)) → post 1 u2) ∧ (¬ (u.1 8 x1.toNatClampNeg) = 0 → post 0 u)))))
abbrev rm_X9_cut : Room := { frames := 1, cells := 0, slots := 0, locals := 22 }
def wp_X8_except (x1 : Int32) (x2 : Int32) (x3 : Int32) (u : WU) (post : Int32 → WU → Prop) : Prop :=
  wp_X5_has x1 u (fun r1 => ((r1 = 0 → post 0 u) ∧ (¬ r1 = 0 → wp_X8_isPair x2 x3 (fun r2 => ((r2 = 0 → post 0 u) ∧ (¬ r2 = 0 → vp_in x1 24 ∧ wp_X8_pairOf x2 x3 (fun r3 => wp_X8_holds (u.2 3 x1.toNatClampNeg) r3 (fun r4 => ((r4 = 0 → vp_in x1 24 ∧ wp_X8_pairOf x2 x3 (fun r5 => vp_in x1 24 ∧ ∀ u6 : WU, u6 = uJ u 3 (vp_updL (u.2 3) x1.toNatClampNeg ((u.2 3 x1.toNatClampNeg) ||| (jshl 1 r5))) → post 1 u6)) ∧ (¬ r4 = 0 → post 0 u))))))))))
abbrev rm_X8_except : Room := { frames := 2, cells := 0, slots := 0, locals := 42 }
def wp_X9_except (x1 : Int32) (x2 : Int32) (x3 : Int32) (u : WU) (post : Int32 → WU → Prop) : Prop :=
  wp_X9_isPart x1 u (fun r1 => ((r1 = 0 → post 0 u) ∧ (¬ r1 = 0 → wp_X9_isLicence x2 (fun r2 => ((r2 = 0 → post 0 u) ∧ (¬ r2 = 0 → wp_X9_lies x3 0 7 (fun r3 => ((r3 = 0 → post 0 u) ∧ (¬ r3 = 0 → vp_in x1 24 ∧ wp_X9_bit x2 x3 (fun r4 => (((lg_cmp ((u.2 1 x1.toNatClampNeg) &&& r4) 0) = 0 → vp_in x1 24 ∧ wp_X9_bit x2 x3 (fun r5 => vp_in x1 24 ∧ ∀ u6 : WU, u6 = uJ u 1 (vp_updL (u.2 1) x1.toNatClampNeg ((u.2 1 x1.toNatClampNeg) ||| r5)) → post 1 u6)) ∧ (¬ (lg_cmp ((u.2 1 x1.toNatClampNeg) &&& r4) 0) = 0 → post 0 u))))))))))))
abbrev rm_X9_except : Room := { frames := 2, cells := 0, slots := 0, locals := 43 }
def wp_X8_product (x1 : Int32) (u : WU) (post : Int32 → WU → Prop) : Prop :=
  wp_X5_has x1 u (fun r1 => ((¬ r1 = 0 → ∀ u2 : WU, u2 = uI u 21 (fun _ => x1) → post 1 u2) ∧ (r1 = 0 → post 0 u)))
abbrev rm_X8_product : Room := { frames := 2, cells := 0, slots := 0, locals := 42 }
def wp_X9_product (x1 : Int32) (u : WU) (post : Int32 → WU → Prop) : Prop :=
  wp_X9_isPart x1 u (fun r1 => ((¬ r1 = 0 → ∀ u2 : WU, u2 = uI u 22 (fun _ => x1) → post 1 u2) ∧ (r1 = 0 → post 0 u)))
abbrev rm_X9_product : Room := { frames := 2, cells := 0, slots := 0, locals := 43 }
def wp_X0_add (x1 : Int32) (x2 : Int32) (x3 : Int32) (x4 : Int32) (u : WU) (post : Int32 → WU → Prop) : Prop :=
  ∀ y1 : Int32, y1 = u.1 23 0 → ∀ u2 : WU, u2 = uI u 23 (fun _ => (u.1 23 0) + 1) → vp_in y1 10 ∧ ∀ u3 : WU, u3 = uI u2 10 (upd (u2.1 10) y1.toNatClampNeg x1) → vp_in y1 10 ∧ ∀ u4 : WU, u4 = uI u3 11 (upd (u3.1 11) y1.toNatClampNeg x2) → vp_in y1 10 ∧ ∀ u5 : WU, u5 = uI u4 12 (upd (u4.1 12) y1.toNatClampNeg x3) → vp_in y1 10 ∧ ∀ u6 : WU, u6 = uI u5 13 (upd (u5.1 13) y1.toNatClampNeg x4) → post y1 u6
abbrev rm_X0_add : Room := { frames := 0, cells := 0, slots := 0, locals := 0 }
def wp_X8_change_J48 (x1 : Int32) (x2 : Int32) (x3 : Int32) (x4 : Int32) (z0 : Int32) (u : WU) (post : Int32 → WU → Prop) : Prop :=
  ((z0 = 0 → post (-1) u) ∧ (¬ z0 = 0 → wp_X8_within x4 100001 (fun r2 => ((r2 = 0 → post (-1) u) ∧ (¬ r2 = 0 → (((u.1 23 0) < 10 → wp_X0_add x1 x2 x3 x4 u (fun r4 u3 => post r4 u3)) ∧ (¬ (u.1 23 0) < 10 → post (-1) u)))))))
def wp_X8_change_J43 (x1 : Int32) (x2 : Int32) (x3 : Int32) (x4 : Int32) (u : WU) (post : Int32 → WU → Prop) : Prop :=
  wp_X8_change_J48 x1 x2 x3 x4 1 u post
def wp_X8_change_J47 (x1 : Int32) (x2 : Int32) (x3 : Int32) (x4 : Int32) (u : WU) (post : Int32 → WU → Prop) : Prop :=
  wp_X8_change_J48 x1 x2 x3 x4 0 u post
def wp_X8_change_J24 (x1 : Int32) (x2 : Int32) (x3 : Int32) (x4 : Int32) (u : WU) (post : Int32 → WU → Prop) : Prop :=
  ((¬ x1 = 1 → wp_X8_change_J47 x1 x2 x3 x4 u post) ∧ (x1 = 1 → wp_X8_within x2 (u.1 22 0) (fun r1 => ((r1 = 0 → wp_X8_change_J47 x1 x2 x3 x4 u post) ∧ (¬ r1 = 0 → wp_X8_change_J43 x1 x2 x3 x4 u post)))))
def wp_X8_change (x1 : Int32) (x2 : Int32) (x3 : Int32) (x4 : Int32) (u : WU) (post : Int32 → WU → Prop) : Prop :=
  ((¬ x1 = 0 → wp_X8_change_J24 x1 x2 x3 x4 u post) ∧ (x1 = 0 → wp_X5_has x2 u (fun r5 => ((r5 = 0 → wp_X8_change_J24 x1 x2 x3 x4 u post) ∧ (¬ r5 = 0 → wp_X8_within x3 8 (fun r6 => ((¬ r6 = 0 → wp_X8_change_J43 x1 x2 x3 x4 u post) ∧ (r6 = 0 → wp_X8_change_J24 x1 x2 x3 x4 u post))))))))
abbrev rm_X8_change : Room := { frames := 2, cells := 0, slots := 0, locals := 42 }
def wp_X9_change_J69 (x1 : Int32) (x2 : Int32) (x3 : Int32) (x4 : Int32) (u : WU) (post : Int32 → WU → Prop) : Prop :=
  vp_in (u.1 24 0) 10 ∧ ∀ u1 : WU, u1 = uI u 9 (upd (u.1 9) (u.1 24 0).toNatClampNeg x1) → vp_in (u1.1 24 0) 10 ∧ ∀ u2 : WU, u2 = uI u1 10 (upd (u1.1 10) (u1.1 24 0).toNatClampNeg x2) → vp_in (u2.1 24 0) 10 ∧ ∀ u3 : WU, u3 = uI u2 11 (upd (u2.1 11) (u2.1 24 0).toNatClampNeg x3) → vp_in (u3.1 24 0) 10 ∧ ∀ u4 : WU, u4 = uI u3 12 (upd (u3.1 12) (u3.1 24 0).toNatClampNeg x4) → ∀ u5 : WU, u5 = uI u4 24 (fun _ => (u4.1 24 0) + 1) → post ((u5.1 24 0) - 1) u5
def wp_X9_change (x1 : Int32) (x2 : Int32) (x3 : Int32) (x4 : Int32) (u : WU) (post : Int32 → WU → Prop) : Prop :=
  (((u.1 24 0) = 10 → post (-1) u) ∧ (¬ (u.1 24 0) = 10 → wp_X9_lies x1 0 1 (fun r6 => ((r6 = 0 → post (-1) u) ∧ (¬ r6 = 0 → wp_X9_lies x4 0 100000 (fun r7 => ((¬ r7 = 0 → ((¬ x1 = 0 → wp_X9_lies x2 0 ((u.1 23 0) - 1) (fun r8 => ((¬ r8 = 0 → wp_X9_change_J69 x1 x2 x3 x4 u post) ∧ (r8 = 0 → post (-1) u)))) ∧ (x1 = 0 → wp_X9_isPart x2 u (fun r9 => ((r9 = 0 → post (-1) u) ∧ (¬ r9 = 0 → wp_X9_isLicence x3 (fun r10 => ((¬ r10 = 0 → wp_X9_change_J69 x1 x2 x3 x4 u post) ∧ (r10 = 0 → post (-1) u))))))))) ∧ (r7 = 0 → post (-1) u))))))))
abbrev rm_X9_change : Room := { frames := 2, cells := 0, slots := 0, locals := 43 }
def wp_X8_pairsOf (x0 : Int32) (post : Int64 → Prop) : Prop :=
  wp_X8_pairOf x0 0 (fun r1 => post (jshl 255 r1))
abbrev rm_X8_pairsOf : Room := { frames := 1, cells := 0, slots := 0, locals := 21 }
def wp_X2_brought (x1 : Int32) (x2 : Int32) (x3 : Int32) (u : WU) (post : Int64 → Prop) : Prop :=
  vp_in x1 4 ∧ wp_X8_pairsOf x3 (fun r1 => vp_in x2 24 ∧ post (((u.2 0 x1.toNatClampNeg) &&& r1) &&& ((u.2 3 x2.toNatClampNeg) ^^^ (-1))))
abbrev rm_X2_brought : Room := { frames := 2, cells := 0, slots := 0, locals := 41 }
def wp_X2_arrive_J89 (x1 : Int32) (x4 : Int64) (x6 : Int64) (x8 : Int32) (u : WU) (post : WU → Prop) (K14 : Int64 → Int32 → WU → Prop) : Prop :=
  ∀ y11 : Int32, y11 = x8 + 1 → K14 x6 y11 u
def wp_X2_arrive_L14 (x1 : Int32) (x4 : Int64) (post : WU → Prop) : Nat → Int64 → Int32 → WU → Prop
  | 0, _, _, _ => False
  | n + 1, x6, x8, u =>
  vp_in x1 24 ∧ (((u.1 9 x1.toNatClampNeg) ≤ x8 → vp_in x1 24 ∧ ∀ u1 : WU, u1 = uJ u 4 (vp_updL (u.2 4) x1.toNatClampNeg x6) → post u1) ∧ (¬ (u.1 9 x1.toNatClampNeg) ≤ x8 → vp_in x8 40 ∧ ∀ y2 : Int32, y2 = u.1 7 x8.toNatClampNeg → wp_X8_holds x4 y2 (fun r3 => ((r3 = 0 → wp_X2_arrive_J89 x1 x4 x6 x8 u post (fun (y4 : Int64) (y5 : Int32) (u6 : WU) => wp_X2_arrive_L14 x1 x4 post n y4 y5 u6)) ∧ (¬ r3 = 0 → vp_in y2 40 ∧ vp_in (u.1 3 y2.toNatClampNeg) 24 ∧ vp_in y2 40 ∧ vp_in (u.1 5 y2.toNatClampNeg) 4 ∧ ∀ y7 : Int64, y7 = x6 ||| ((u.2 4 (u.1 3 y2.toNatClampNeg).toNatClampNeg) &&& (u.2 1 (u.1 5 y2.toNatClampNeg).toNatClampNeg)) → wp_X2_arrive_J89 x1 x4 y7 x8 u post (fun (y8 : Int64) (y9 : Int32) (u10 : WU) => wp_X2_arrive_L14 x1 x4 post n y8 y9 u10))))))
def wp_X2_arrive (x1 : Int32) (x2 : Int64) (x4 : Int64) (u : WU) (post : WU → Prop) : Prop :=
  vp_in x1 24 ∧ ∀ y12 : Int32, y12 = u.1 8 x1.toNatClampNeg → ∃ nn : Nat, wp_X2_arrive_L14 x1 x4 post nn x2 y12 u
abbrev rm_X2_arrive : Room := { frames := 1, cells := 0, slots := 0, locals := 22 }
def wp_X2_run_c14_L3 (x1 : Int32) (x3 : Int64) (post : WU → Prop) : Nat → Int32 → WU → Prop
  | 0, _, _ => False
  | n + 1, x5, u =>
  ((24 ≤ x5 → post u) ∧ (¬ 24 ≤ x5 → vp_in x5 24 ∧ ∀ y1 : Int32, y1 = u.1 6 x5.toNatClampNeg → vp_in y1 24 ∧ wp_X2_brought x1 y1 (u.1 2 y1.toNatClampNeg) u (fun r2 => wp_X2_arrive y1 r2 x3 u (fun u3 => ∀ y4 : Int32, y4 = x5 + 1 → wp_X2_run_c14_L3 x1 x3 post n y4 u3))))
def wp_X2_run_c14 (x1 : Int32) (x3 : Int64) (u : WU) (post : WU → Prop) : Prop :=
  ∃ nn : Nat, wp_X2_run_c14_L3 x1 x3 post nn 0 u
abbrev rm_X2_run : Room := { frames := 3, cells := 0, slots := 0, locals := 64 }
def wp_X8_come (x1 : Int32) (x2 : Int32) (x3 : Int32) (u : WU) (post : Int32 → WU → Prop) : Prop :=
  wp_X8_within x1 4 (fun r1 => ((r1 = 0 → post (-1) u) ∧ (¬ r1 = 0 → wp_X5_has x2 u (fun r2 => ((r2 = 0 → post (-1) u) ∧ (¬ r2 = 0 → wp_X8_within x3 8 (fun r3 => ((¬ r3 = 0 → wp_X2_run_c14 x1 (u.2 6 0) u (fun u4 => vp_in x2 24 ∧ wp_X8_pairOf x3 0 (fun r5 => post (((jushr (u4.2 4 x2.toNatClampNeg) r5).toInt32) &&& 255) u4))) ∧ (r3 = 0 → post (-1) u)))))))))
abbrev rm_X8_come : Room := { frames := 4, cells := 0, slots := 0, locals := 90 }
def wp_X9_isShipping (x0 : Int32) (post : Int32 → Prop) : Prop :=
  wp_X9_lies x0 0 3 (fun r1 => bl r1 ∧ post r1)
abbrev rm_X9_isShipping : Room := { frames := 1, cells := 0, slots := 0, locals := 22 }
def wp_X9_orders_L2  (post : WU → Prop) (K21 : WU → Prop) : Nat → Int32 → WU → Prop
  | 0, _, _ => False
  | n + 1, x1, u =>
  ((24 ≤ x1 → K21 u) ∧ (¬ 24 ≤ x1 → vp_in x1 24 ∧ ∀ u1 : WU, u1 = uI u 17 (upd (u.1 17) x1.toNatClampNeg 0) → ∀ y2 : Int32, y2 = x1 + 1 → wp_X9_orders_L2 post K21 n y2 u1))
def wp_X9_orders_J101 (x1 : Int32) (x2 : Int32) (u : WU) (post : WU → Prop) (K33 : Int32 → WU → Prop) : Prop :=
  ∀ y22 : Int32, y22 = x2 + 1 → K33 y22 u
def wp_X9_orders_L33 (x1 : Int32) (post : WU → Prop) (K107 : WU → Prop) : Nat → Int32 → WU → Prop
  | 0, _, _ => False
  | n + 1, x2, u =>
  (((u.1 23 0) ≤ x2 → K107 u) ∧ (¬ (u.1 23 0) ≤ x2 → vp_in x2 40 ∧ ((¬ (u.1 14 x2.toNatClampNeg) = 0 → wp_X9_orders_J101 x1 x2 u post (fun (y5 : Int32) (u6 : WU) => wp_X9_orders_L33 x1 post K107 n y5 u6)) ∧ ((u.1 14 x2.toNatClampNeg) = 0 → vp_in x2 40 ∧ vp_in (u.1 6 x2.toNatClampNeg) 24 ∧ vp_in x2 40 ∧ vp_in (u.1 5 x2.toNatClampNeg) 24 ∧ ((((u.1 17 (u.1 5 x2.toNatClampNeg).toNatClampNeg) + 1) ≤ (u.1 17 (u.1 6 x2.toNatClampNeg).toNatClampNeg) → wp_X9_orders_J101 x1 x2 u post (fun (y7 : Int32) (u8 : WU) => wp_X9_orders_L33 x1 post K107 n y7 u8)) ∧ (¬ ((u.1 17 (u.1 5 x2.toNatClampNeg).toNatClampNeg) + 1) ≤ (u.1 17 (u.1 6 x2.toNatClampNeg).toNatClampNeg) → vp_in x2 40 ∧ vp_in x2 40 ∧ vp_in (u.1 5 x2.toNatClampNeg) 24 ∧ vp_in (u.1 6 x2.toNatClampNeg) 24 ∧ ∀ u9 : WU, u9 = uI u 17 (upd (u.1 17) (u.1 6 x2.toNatClampNeg).toNatClampNeg ((u.1 17 (u.1 5 x2.toNatClampNeg).toNatClampNeg) + 1)) → wp_X9_orders_J101 x1 x2 u9 post (fun (y10 : Int32) (u11 : WU) => wp_X9_orders_L33 x1 post K107 n y10 u11)))))))
def wp_X9_orders_L23  (post : WU → Prop) (K113 : WU → Prop) : Nat → Int32 → WU → Prop
  | 0, _, _ => False
  | n + 1, x1, u =>
  (((u.1 21 0) ≤ x1 → K113 u) ∧ (¬ (u.1 21 0) ≤ x1 → ∃ nn : Nat, wp_X9_orders_L33 x1 post (fun (u3 : WU) => ∀ y4 : Int32, y4 = x1 + 1 → wp_X9_orders_L23 post K113 n y4 u3) nn 0 u))
def wp_X9_orders_J183 (x1 : Int32) (x2 : Int32) (u : WU) (post : WU → Prop) (K128 : Int32 → WU → Prop) : Prop :=
  ∀ y23 : Int32, y23 = x2 + 1 → K128 y23 u
def wp_X9_orders_L128 (x1 : Int32) (post : WU → Prop) (K189 : WU → Prop) : Nat → Int32 → WU → Prop
  | 0, _, _ => False
  | n + 1, x2, u =>
  (((u.1 23 0) ≤ x2 → K189 u) ∧ (¬ (u.1 23 0) ≤ x2 → vp_in x2 40 ∧ ((¬ (u.1 14 x2.toNatClampNeg) = 0 → wp_X9_orders_J183 x1 x2 u post (fun (y14 : Int32) (u15 : WU) => wp_X9_orders_L128 x1 post K189 n y14 u15)) ∧ ((u.1 14 x2.toNatClampNeg) = 0 → vp_in x2 40 ∧ vp_in (u.1 5 x2.toNatClampNeg) 24 ∧ (((u.1 17 (u.1 5 x2.toNatClampNeg).toNatClampNeg) = x1 → vp_in (u.1 25 0) 40 ∧ ∀ u16 : WU, u16 = uI u 16 (upd (u.1 16) (u.1 25 0).toNatClampNeg x2) → ∀ u17 : WU, u17 = uI u16 25 (fun _ => (u16.1 25 0) + 1) → wp_X9_orders_J183 x1 x2 u17 post (fun (y18 : Int32) (u19 : WU) => wp_X9_orders_L128 x1 post K189 n y18 u19)) ∧ (¬ (u.1 17 (u.1 5 x2.toNatClampNeg).toNatClampNeg) = x1 → wp_X9_orders_J183 x1 x2 u post (fun (y20 : Int32) (u21 : WU) => wp_X9_orders_L128 x1 post K189 n y20 u21)))))))
def wp_X9_orders_L120  (post : WU → Prop) : Nat → Int32 → WU → Prop
  | 0, _, _ => False
  | n + 1, x1, u =>
  ((24 ≤ x1 → post u) ∧ (¬ 24 ≤ x1 → ∃ nn : Nat, wp_X9_orders_L128 x1 post (fun (u12 : WU) => ∀ y13 : Int32, y13 = x1 + 1 → wp_X9_orders_L120 post n y13 u12) nn 0 u))
def wp_X9_orders  (u : WU) (post : WU → Prop) : Prop :=
  ∃ nn : Nat, wp_X9_orders_L2 post (fun (u24 : WU) => ∃ nn : Nat, wp_X9_orders_L23 post (fun (u25 : WU) => ∀ u26 : WU, u26 = uI u25 25 (fun _ => 0) → ∃ nn : Nat, wp_X9_orders_L120 post nn 0 u26) nn 0 u24) nn 0 u
abbrev rm_X9_orders : Room := { frames := 0, cells := 0, slots := 0, locals := 0 }
def wp_X9_brings (x1 : Int32) (x2 : Int32) (u : WU) (post : Int64 → Prop) : Prop :=
  vp_in x2 24 ∧ vp_in ((4 * (u.1 15 x2.toNatClampNeg)) + x1) 32 ∧ vp_in x2 24 ∧ vp_in x2 24 ∧ post ((jshl ((u.1 0 ((4 * (u.1 15 x2.toNatClampNeg)) + x1).toNatClampNeg).toInt64) (8 * (u.1 15 x2.toNatClampNeg))) &&& ((u.2 1 x2.toNatClampNeg) ^^^ (-1)))
abbrev rm_X9_brings : Room := { frames := 0, cells := 0, slots := 0, locals := 0 }
def wp_X9_comes_L2 (x1 : Int32) (post : WU → Prop) (K28 : WU → Prop) : Nat → Int32 → WU → Prop
  | 0, _, _ => False
  | n + 1, x2, u =>
  (((u.1 21 0) ≤ x2 → K28 u) ∧ (¬ (u.1 21 0) ≤ x2 → wp_X9_brings x1 x2 u (fun r1 => vp_in x2 24 ∧ ∀ u2 : WU, u2 = uJ u 2 (vp_updL (u.2 2) x2.toNatClampNeg r1) → ∀ y3 : Int32, y3 = x2 + 1 → wp_X9_comes_L2 x1 post K28 n y3 u2)))
def wp_X9_comes_L30  (post : WU → Prop) : Nat → Int32 → WU → Prop
  | 0, _, _ => False
  | n + 1, x2, u =>
  (((u.1 25 0) ≤ x2 → post u) ∧ (¬ (u.1 25 0) ≤ x2 → vp_in x2 40 ∧ ∀ y4 : Int32, y4 = u.1 16 x2.toNatClampNeg → vp_in y4 40 ∧ vp_in (u.1 6 y4.toNatClampNeg) 24 ∧ vp_in y4 40 ∧ vp_in (u.1 5 y4.toNatClampNeg) 24 ∧ vp_in y4 40 ∧ vp_in (u.1 7 y4.toNatClampNeg) 4 ∧ vp_in (u.1 6 y4.toNatClampNeg) 24 ∧ ∀ u5 : WU, u5 = uJ u 2 (vp_updL (u.2 2) (u.1 6 y4.toNatClampNeg).toNatClampNeg ((u.2 2 (u.1 6 y4.toNatClampNeg).toNatClampNeg) ||| ((u.2 2 (u.1 5 y4.toNatClampNeg).toNatClampNeg) &&& (u.2 0 (u.1 7 y4.toNatClampNeg).toNatClampNeg)))) → ∀ y6 : Int32, y6 = x2 + 1 → wp_X9_comes_L30 post n y6 u5))
def wp_X9_comes (x1 : Int32) (u : WU) (post : WU → Prop) : Prop :=
  ∃ nn : Nat, wp_X9_comes_L2 x1 post (fun (u7 : WU) => ∃ nn : Nat, wp_X9_comes_L30 post nn 0 u7) nn 0 u
abbrev rm_X9_comes : Room := { frames := 1, cells := 0, slots := 0, locals := 22 }
def wp_X9_works (x1 : Int32) (u : WU) (post : WU → Prop) : Prop :=
  wp_X9_asItIs u (fun u1 => wp_X9_orders u1 (fun u2 => wp_X9_reaches (u2.1 22 0) u2 (fun u3 => wp_X9_comes x1 u3 (fun u4 => post u4))))
abbrev rm_X9_works : Room := { frames := 2, cells := 0, slots := 0, locals := 45 }
def wp_X9_come (x1 : Int32) (x2 : Int32) (x3 : Int32) (u : WU) (post : Int32 → WU → Prop) : Prop :=
  wp_X9_isShipping x1 (fun r1 => ((r1 = 0 → post (-1) u) ∧ (¬ r1 = 0 → wp_X9_isPart x2 u (fun r2 => ((r2 = 0 → post (-1) u) ∧ (¬ r2 = 0 → wp_X9_isLicence x3 (fun r3 => ((¬ r3 = 0 → wp_X9_works x1 u (fun u4 => vp_in x2 24 ∧ post (((jshr (u4.2 2 x2.toNatClampNeg) (8 * x3)) &&& 255).toInt32) u4)) ∧ (r3 = 0 → post (-1) u)))))))))
abbrev rm_X9_come : Room := { frames := 3, cells := 0, slots := 0, locals := 66 }
def wp_X2_foughtAt (x1 : Int32) (x2 : Int32) (u : WU) (post : Int64 → Prop) : Prop :=
  vp_in x1 24 ∧ vp_in x2 8 ∧ post ((u.2 4 x1.toNatClampNeg) &&& (u.2 2 x2.toNatClampNeg))
abbrev rm_X2_foughtAt : Room := { frames := 0, cells := 0, slots := 0, locals := 0 }
def wp_J13_bitCount_95d88 (x0 : Int64) (post : Int32 → Prop) : Prop :=
  ∀ y1 : Int64, y1 = x0 - ((jushr x0 1) &&& 6148914691236517205) → ∀ y2 : Int64, y2 = (y1 &&& 3689348814741910323) + ((jushr y1 2) &&& 3689348814741910323) → ∀ y3 : Int64, y3 = (y2 + (jushr y2 4)) &&& 1085102592571150095 → ∀ y4 : Int64, y4 = y3 + (jushr y3 8) → ∀ y5 : Int64, y5 = y4 + (jushr y4 16) → ∀ y6 : Int64, y6 = y5 + (jushr y5 32) → post (y6.toInt32 &&& 127)
abbrev rm_J13_bitCount_95d88 : Room := { frames := 0, cells := 0, slots := 0, locals := 0 }
def wp_X2_ofProduct (x1 : Int64) (u : WU) (post : Int32 → Prop) : Prop :=
  ((¬ (u.1 20 0) = 0 → wp_X3_allIn (u.1 21 0) x1 u (fun r1 => post r1)) ∧ ((u.1 20 0) = 0 → post 0))
abbrev rm_X2_ofProduct : Room := { frames := 2, cells := 0, slots := 0, locals := 50 }
def wp_X2_quarrelCount_c14_J54 (x4 : Int32) (x5 : Int32) (x6 : Int32) (u : WU) (post : Int32 → Prop) (K13 : Int32 → Int32 → Prop) : Prop :=
  ∀ y9 : Int32, y9 = x6 + 1 → K13 x5 y9
def wp_X2_quarrelCount_c14_L13 (x4 : Int32) (u : WU) (post : Int32 → Prop) : Nat → Int32 → Int32 → Prop
  | 0, _, _ => False
  | n + 1, x5, x6 =>
  (((u.1 20 0) ≤ x6 → post x5) ∧ (¬ (u.1 20 0) ≤ x6 → wp_X8_holds x4.toInt64 x6 (fun r1 => ((r1 = 0 → wp_X2_quarrelCount_c14_J54 x4 x5 x6 u post (fun (y2 : Int32) (y3 : Int32) => wp_X2_quarrelCount_c14_L13 x4 u post n y2 y3)) ∧ (¬ r1 = 0 → vp_in x6 24 ∧ wp_X2_foughtAt x6 (u.1 2 x6.toNatClampNeg) u (fun r4 => wp_J13_bitCount_95d88 r4 (fun r5 => ∀ y6 : Int32, y6 = x5 + r5 → wp_X2_quarrelCount_c14_J54 x4 y6 x6 u post (fun (y7 : Int32) (y8 : Int32) => wp_X2_quarrelCount_c14_L13 x4 u post n y7 y8))))))))
def wp_X2_quarrelCount_c14 (x2 : Int64) (u : WU) (post : Int32 → Prop) : Prop :=
  wp_X2_ofProduct x2 u (fun r10 => ∃ nn : Nat, wp_X2_quarrelCount_c14_L13 r10 u post nn 0 0)
abbrev rm_X2_quarrelCount : Room := { frames := 3, cells := 0, slots := 0, locals := 72 }
def wp_X8_quarrels (x1 : Int32) (u : WU) (post : Int32 → WU → Prop) : Prop :=
  wp_X8_within x1 4 (fun r1 => ((¬ r1 = 0 → wp_X2_run_c14 x1 (u.2 6 0) u (fun u2 => wp_X2_quarrelCount_c14 (u2.2 6 0) u2 (fun r3 => post r3 u2))) ∧ (r1 = 0 → post (-1) u)))
abbrev rm_X8_quarrels : Room := { frames := 4, cells := 0, slots := 0, locals := 98 }
def wp_X9_bars__J34 (x1 : Int32) (x2 : Int64) (x4 : Int32) (u : WU) (post : Int64 → Prop) (K5 : Int64 → Int32 → Prop) : Prop :=
  ∀ y6 : Int32, y6 = x4 + 1 → K5 x2 y6
def wp_X9_bars__L5 (x1 : Int32) (u : WU) (post : Int64 → Prop) : Nat → Int64 → Int32 → Prop
  | 0, _, _ => False
  | n + 1, x2, x4 =>
  ((8 ≤ x4 → post x2) ∧ (¬ 8 ≤ x4 → ((x4 = x1 → wp_X9_bars__J34 x1 x2 x4 u post (fun (y1 : Int64) (y2 : Int32) => wp_X9_bars__L5 x1 u post n y1 y2)) ∧ (¬ x4 = x1 → vp_in x1 8 ∧ ∀ y3 : Int64, y3 = x2 ||| (jshl ((u.1 1 x1.toNatClampNeg).toInt64) (8 * x4)) → wp_X9_bars__J34 x1 y3 x4 u post (fun (y4 : Int64) (y5 : Int32) => wp_X9_bars__L5 x1 u post n y4 y5)))))
def wp_X9_bars_ (x1 : Int32) (u : WU) (post : Int64 → Prop) : Prop :=
  ∃ nn : Nat, wp_X9_bars__L5 x1 u post nn 0 0
abbrev rm_X9_bars_ : Room := { frames := 0, cells := 0, slots := 0, locals := 0 }
def wp_X9_bits_L4  (post : Int32 → Prop) : Nat → Int32 → Int64 → Prop
  | 0, _, _ => False
  | n + 1, x2, x3 =>
  (((lg_cmp x3 0) = 0 → post x2) ∧ (¬ (lg_cmp x3 0) = 0 → ∀ y1 : Int32, y1 = x2 + 1 → ∀ y2 : Int64, y2 = x3 &&& (x3 - 1) → wp_X9_bits_L4 post n y1 y2))
def wp_X9_bits (x0 : Int64) (post : Int32 → Prop) : Prop :=
  ∃ nn : Nat, wp_X9_bits_L4 post nn 0 x0
abbrev rm_X9_bits : Room := { frames := 0, cells := 0, slots := 0, locals := 0 }
def wp_X9_quarrelsNow_J44 (x1 : Int32) (x2 : Int32) (u : WU) (post : Int32 → Prop) (K4 : Int32 → Int32 → Prop) : Prop :=
  ∀ y8 : Int32, y8 = x2 + 1 → K4 x1 y8
def wp_X9_quarrelsNow_L4  (u : WU) (post : Int32 → Prop) : Nat → Int32 → Int32 → Prop
  | 0, _, _ => False
  | n + 1, x1, x2 =>
  (((u.1 21 0) ≤ x2 → post x1) ∧ (¬ (u.1 21 0) ≤ x2 → vp_in x2 24 ∧ (((u.1 13 x2.toNatClampNeg) = 0 → wp_X9_quarrelsNow_J44 x1 x2 u post (fun (y1 : Int32) (y2 : Int32) => wp_X9_quarrelsNow_L4 u post n y1 y2)) ∧ (¬ (u.1 13 x2.toNatClampNeg) = 0 → vp_in x2 24 ∧ vp_in x2 24 ∧ wp_X9_bars_ (u.1 15 x2.toNatClampNeg) u (fun r3 => wp_X9_bits ((u.2 2 x2.toNatClampNeg) &&& r3) (fun r4 => ∀ y5 : Int32, y5 = x1 + r4 → wp_X9_quarrelsNow_J44 y5 x2 u post (fun (y6 : Int32) (y7 : Int32) => wp_X9_quarrelsNow_L4 u post n y6 y7)))))))
def wp_X9_quarrelsNow  (u : WU) (post : Int32 → Prop) : Prop :=
  ∃ nn : Nat, wp_X9_quarrelsNow_L4 u post nn 0 0
abbrev rm_X9_quarrelsNow : Room := { frames := 1, cells := 0, slots := 0, locals := 24 }
def wp_X9_quarrels (x1 : Int32) (u : WU) (post : Int32 → WU → Prop) : Prop :=
  wp_X9_isShipping x1 (fun r1 => ((¬ r1 = 0 → wp_X9_works x1 u (fun u2 => wp_X9_quarrelsNow u2 (fun r3 => post r3 u2))) ∧ (r1 = 0 → post (-1) u)))
abbrev rm_X9_quarrels : Room := { frames := 3, cells := 0, slots := 0, locals := 66 }
def wp_X2_pairAt_J32 (x0 : Int64) (x2 : Int32) (x3 : Int32) (x4 : Int32) (post : Int32 → Prop) (K5 : Int32 → Int32 → Prop) : Prop :=
  ∀ y7 : Int32, y7 = x4 + 1 → K5 x3 y7
def wp_X2_pairAt_L5 (x0 : Int64) (x2 : Int32) (post : Int32 → Prop) : Nat → Int32 → Int32 → Prop
  | 0, _, _ => False
  | n + 1, x3, x4 =>
  ((64 ≤ x4 → post (-1)) ∧ (¬ 64 ≤ x4 → wp_X8_holds x0 x4 (fun r1 => ((r1 = 0 → wp_X2_pairAt_J32 x0 x2 x3 x4 post (fun (y2 : Int32) (y3 : Int32) => wp_X2_pairAt_L5 x0 x2 post n y2 y3)) ∧ (¬ r1 = 0 → ((¬ x3 = x2 → ∀ y4 : Int32, y4 = x3 + 1 → wp_X2_pairAt_J32 x0 x2 y4 x4 post (fun (y5 : Int32) (y6 : Int32) => wp_X2_pairAt_L5 x0 x2 post n y5 y6)) ∧ (x3 = x2 → post x4)))))))
def wp_X2_pairAt (x0 : Int64) (x2 : Int32) (post : Int32 → Prop) : Prop :=
  ∃ nn : Nat, wp_X2_pairAt_L5 x0 x2 post nn 0 0
abbrev rm_X2_pairAt : Room := { frames := 1, cells := 0, slots := 0, locals := 22 }
def wp_X2_quarrelAt_J59 (x1 : Int32) (x2 : Int32) (x3 : Int32) (x4 : Int32) (z0 : Int64) (u : WU) (post : Int32 → Prop) (K17 : Int32 → Int32 → Prop) : Prop :=
  wp_J13_bitCount_95d88 z0 (fun r7 => (((x3 + r7) ≤ x1 → ∀ y8 : Int32, y8 = x3 + r7 → ∀ y9 : Int32, y9 = x4 + 1 → K17 y8 y9) ∧ (¬ (x3 + r7) ≤ x1 → wp_X2_pairAt z0 (x1 - x3) (fun r10 => post ((x4 * 64) + r10)))))
def wp_X2_quarrelAt_L17 (x1 : Int32) (x2 : Int32) (u : WU) (post : Int32 → Prop) : Nat → Int32 → Int32 → Prop
  | 0, _, _ => False
  | n + 1, x3, x4 =>
  (((u.1 20 0) ≤ x4 → post (-1)) ∧ (¬ (u.1 20 0) ≤ x4 → wp_X8_holds x2.toInt64 x4 (fun r1 => ((r1 = 0 → wp_X2_quarrelAt_J59 x1 x2 x3 x4 0 u post (fun (y2 : Int32) (y3 : Int32) => wp_X2_quarrelAt_L17 x1 x2 u post n y2 y3)) ∧ (¬ r1 = 0 → vp_in x4 24 ∧ wp_X2_foughtAt x4 (u.1 2 x4.toNatClampNeg) u (fun r4 => wp_X2_quarrelAt_J59 x1 x2 x3 x4 r4 u post (fun (y5 : Int32) (y6 : Int32) => wp_X2_quarrelAt_L17 x1 x2 u post n y5 y6)))))))
def wp_X2_quarrelAt (x1 : Int32) (u : WU) (post : Int32 → Prop) : Prop :=
  wp_X2_ofProduct (u.2 6 0) u (fun r11 => ∃ nn : Nat, wp_X2_quarrelAt_L17 x1 r11 u post nn 0 0)
abbrev rm_X2_quarrelAt : Room := { frames := 3, cells := 0, slots := 0, locals := 72 }
def wp_X8_quarrel (x1 : Int32) (x2 : Int32) (u : WU) (post : Int32 → WU → Prop) : Prop :=
  wp_X8_within x1 4 (fun r1 => ((r1 = 0 → post (-1) u) ∧ (¬ r1 = 0 → ((0 ≤ x2 → wp_X2_run_c14 x1 (u.2 6 0) u (fun u2 => wp_X2_quarrelAt x2 u2 (fun r3 => post r3 u2))) ∧ (¬ 0 ≤ x2 → post (-1) u)))))
abbrev rm_X8_quarrel : Room := { frames := 4, cells := 0, slots := 0, locals := 99 }
def wp_X9_quarrel_J109 (x2 : Int32) (x3 : Int32) (x4 : Int32) (x5 : Int64) (x7 : Int32) (u : WU) (post : Int32 → WU → Prop) (K70 : Int32 → Int32 → WU → Prop) : Prop :=
  ∀ y18 : Int32, y18 = x7 + 1 → K70 x3 y18 u
def wp_X9_quarrel_L70 (x2 : Int32) (x4 : Int32) (x5 : Int64) (post : Int32 → WU → Prop) (K115 : Int32 → WU → Prop) : Nat → Int32 → Int32 → WU → Prop
  | 0, _, _, _ => False
  | n + 1, x3, x7, u =>
  ((64 ≤ x7 → K115 x3 u) ∧ (¬ 64 ≤ x7 → ((¬ (lg_cmp ((jshr x5 x7) &&& 1) 0) = 0 → ((¬ x3 = x2 → ∀ y8 : Int32, y8 = x3 + 1 → wp_X9_quarrel_J109 x2 y8 x4 x5 x7 u post (fun (y9 : Int32) (y10 : Int32) (u11 : WU) => wp_X9_quarrel_L70 x2 x4 x5 post K115 n y9 y10 u11)) ∧ (x3 = x2 → post ((64 * x4) + x7) u))) ∧ ((lg_cmp ((jshr x5 x7) &&& 1) 0) = 0 → wp_X9_quarrel_J109 x2 x3 x4 x5 x7 u post (fun (y12 : Int32) (y13 : Int32) (u14 : WU) => wp_X9_quarrel_L70 x2 x4 x5 post K115 n y12 y13 u14)))))
def wp_X9_quarrel_J65 (x2 : Int32) (x3 : Int32) (x4 : Int32) (z0 : Int64) (u : WU) (post : Int32 → WU → Prop) (K23 : Int32 → Int32 → WU → Prop) : Prop :=
  ∃ nn : Nat, wp_X9_quarrel_L70 x2 x4 z0 post (fun (y15 : Int32) (u16 : WU) => ∀ y17 : Int32, y17 = x4 + 1 → K23 y15 y17 u16) nn x3 0 u
def wp_X9_quarrel_L23 (x2 : Int32) (post : Int32 → WU → Prop) : Nat → Int32 → Int32 → WU → Prop
  | 0, _, _, _ => False
  | n + 1, x3, x4, u =>
  (((u.1 21 0) ≤ x4 → post (-1) u) ∧ (¬ (u.1 21 0) ≤ x4 → vp_in x4 24 ∧ (((u.1 13 x4.toNatClampNeg) = 0 → wp_X9_quarrel_J65 x2 x3 x4 0 u post (fun (y1 : Int32) (y2 : Int32) (u3 : WU) => wp_X9_quarrel_L23 x2 post n y1 y2 u3)) ∧ (¬ (u.1 13 x4.toNatClampNeg) = 0 → vp_in x4 24 ∧ vp_in x4 24 ∧ wp_X9_bars_ (u.1 15 x4.toNatClampNeg) u (fun r4 => wp_X9_quarrel_J65 x2 x3 x4 ((u.2 2 x4.toNatClampNeg) &&& r4) u post (fun (y5 : Int32) (y6 : Int32) (u7 : WU) => wp_X9_quarrel_L23 x2 post n y5 y6 u7))))))
def wp_X9_quarrel (x1 : Int32) (x2 : Int32) (u : WU) (post : Int32 → WU → Prop) : Prop :=
  wp_X9_isShipping x1 (fun r19 => ((r19 = 0 → post (-1) u) ∧ (¬ r19 = 0 → ((0 ≤ x2 → wp_X9_works x1 u (fun u20 => ∃ nn : Nat, wp_X9_quarrel_L23 x2 post nn 0 0 u20)) ∧ (¬ 0 ≤ x2 → post (-1) u)))))
abbrev rm_X9_quarrel : Room := { frames := 3, cells := 0, slots := 0, locals := 66 }
def wp_X2_wayCount_J48 (x1 : Int32) (x2 : Int32) (x3 : Int32) (u : WU) (post : Int32 → Prop) (K16 : Int32 → Int32 → Prop) : Prop :=
  ((x2 ≤ 6561 → ∀ y7 : Int32, y7 = x3 + 1 → K16 x2 y7) ∧ (¬ x2 ≤ 6561 → post (-1)))
def wp_X2_wayCount_L16 (x1 : Int32) (u : WU) (post : Int32 → Prop) : Nat → Int32 → Int32 → Prop
  | 0, _, _ => False
  | n + 1, x2, x3 =>
  (((u.1 20 0) ≤ x3 → post x2) ∧ (¬ (u.1 20 0) ≤ x3 → wp_X8_holds x1.toInt64 x3 (fun r1 => ((r1 = 0 → wp_X2_wayCount_J48 x1 x2 x3 u post (fun (y2 : Int32) (y3 : Int32) => wp_X2_wayCount_L16 x1 u post n y2 y3)) ∧ (¬ r1 = 0 → vp_in x3 24 ∧ ∀ y4 : Int32, y4 = x2 * (u.1 1 x3.toNatClampNeg) → wp_X2_wayCount_J48 x1 y4 x3 u post (fun (y5 : Int32) (y6 : Int32) => wp_X2_wayCount_L16 x1 u post n y5 y6))))))
def wp_X2_wayCount  (u : WU) (post : Int32 → Prop) : Prop :=
  wp_X2_ofProduct (u.2 6 0) u (fun r8 => ∃ nn : Nat, wp_X2_wayCount_L16 r8 u post nn 1 0)
abbrev rm_X2_wayCount : Room := { frames := 3, cells := 0, slots := 0, locals := 72 }
def wp_X1_settle_L2 (x1 : Int32) (post : Int32 → WU → Prop) : Nat → Int32 → WU → Prop
  | 0, _, _ => False
  | n + 1, x3, u =>
  (((u.1 24 0) ≤ x3 → post (u.1 24 0) u) ∧ (¬ (u.1 24 0) ≤ x3 → vp_in x3 24 ∧ ∀ y1 : Int32, y1 = u.1 14 x3.toNatClampNeg → vp_in y1 24 ∧ wp_X5_choiceOf y1 (u.1 15 y1.toNatClampNeg) u (fun r2 => wp_X2_brought x1 y1 r2 u (fun r3 => wp_X2_arrive y1 r3 (u.2 6 0) u (fun u4 => vp_in x3 25 ∧ wp_X2_foughtAt y1 r2 u4 (fun r5 => wp_J13_bitCount_95d88 r5 (fun r6 => vp_in (x3 + 1) 25 ∧ ∀ u7 : WU, u7 = uI u4 17 (upd (u4.1 17) (x3 + 1).toNatClampNeg ((u4.1 17 x3.toNatClampNeg) + r6)) → vp_in (x3 + 1) 25 ∧ (((u7.1 17 (x3 + 1).toNatClampNeg) ≤ (u7.1 25 0) → ∀ y8 : Int32, y8 = x3 + 1 → wp_X1_settle_L2 x1 post n y8 u7) ∧ (¬ (u7.1 17 (x3 + 1).toNatClampNeg) ≤ (u7.1 25 0) → post x3 u7)))))))))
def wp_X1_settle (x1 : Int32) (x2 : Int32) (u : WU) (post : Int32 → WU → Prop) : Prop :=
  ∃ nn : Nat, wp_X1_settle_L2 x1 post nn x2 u
abbrev rm_X1_settle : Room := { frames := 3, cells := 0, slots := 0, locals := 64 }
def wp_X1_isBetter_L46  (u : WU) (post : Int32 → Prop) (K67 : Int32 → Prop) : Nat → Int32 → Prop
  | 0, _ => False
  | n + 1, x3 =>
  ((24 ≤ x3 → post 0) ∧ (¬ 24 ≤ x3 → vp_in x3 24 ∧ vp_in x3 24 ∧ (((u.1 15 x3.toNatClampNeg) = (u.1 16 x3.toNatClampNeg) → ∀ y1 : Int32, y1 = x3 + 1 → wp_X1_isBetter_L46 u post K67 n y1) ∧ (¬ (u.1 15 x3.toNatClampNeg) = (u.1 16 x3.toNatClampNeg) → K67 x3))))
def wp_X1_isBetter (x1 : Int32) (x2 : Int32) (u : WU) (post : Int32 → Prop) : Prop :=
  ((x1 = (u.1 25 0) → ((x2 = (u.1 26 0) → ∃ nn : Nat, wp_X1_isBetter_L46 u post (fun (y2 : Int32) => vp_in y2 24 ∧ vp_in y2 24 ∧ (((u.1 16 y2.toNatClampNeg) ≤ (u.1 15 y2.toNatClampNeg) → post 0) ∧ (¬ (u.1 16 y2.toNatClampNeg) ≤ (u.1 15 y2.toNatClampNeg) → post 1))) nn 0) ∧ (¬ x2 = (u.1 26 0) → (((u.1 26 0) ≤ x2 → post 0) ∧ (¬ (u.1 26 0) ≤ x2 → post 1))))) ∧ (¬ x1 = (u.1 25 0) → (((u.1 25 0) ≤ x1 → post 0) ∧ (¬ (u.1 25 0) ≤ x1 → post 1))))
abbrev rm_X1_isBetter : Room := { frames := 0, cells := 0, slots := 0, locals := 0 }
def wp_X1_keepIfBetter  (u : WU) (post : WU → Prop) : Prop :=
  vp_in (u.1 24 0) 25 ∧ ∀ y1 : Int32, y1 = u.1 17 (u.1 24 0).toNatClampNeg → vp_in (u.1 21 0) 24 ∧ wp_J13_bitCount_95d88 (u.2 4 (u.1 21 0).toNatClampNeg) (fun r2 => wp_X1_isBetter y1 r2 u (fun r3 => ((r3 = 0 → post u) ∧ (¬ r3 = 0 → ∀ u4 : WU, u4 = uI u 25 (fun _ => y1) → ∀ u5 : WU, u5 = uI u4 26 (fun _ => r2) → ∀ u6 : WU, u6 = uI u5 16 (va_cpy (u5.1 15) (u5.1 16) (0 : Int32).toNatClampNeg (0 : Int32).toNatClampNeg (24 : Int32).toNatClampNeg) → post u6))))
abbrev rm_X1_keepIfBetter : Room := { frames := 1, cells := 0, slots := 0, locals := 40 }
def wp_X1_advance_L2  (post : Int32 → WU → Prop) : Nat → Int32 → WU → Prop
  | 0, _, _ => False
  | n + 1, x2, u =>
  ((x2 < 0 → post (-1) u) ∧ (¬ x2 < 0 → vp_in x2 24 ∧ ∀ y1 : Int32, y1 = u.1 14 x2.toNatClampNeg → vp_in y1 24 ∧ vp_in y1 24 ∧ (((u.1 1 y1.toNatClampNeg) ≤ ((u.1 15 y1.toNatClampNeg) + 1) → vp_in y1 24 ∧ ∀ u2 : WU, u2 = uI u 15 (upd (u.1 15) y1.toNatClampNeg 0) → ∀ y3 : Int32, y3 = x2 + (-1) → wp_X1_advance_L2 post n y3 u2) ∧ (¬ (u.1 1 y1.toNatClampNeg) ≤ ((u.1 15 y1.toNatClampNeg) + 1) → vp_in y1 24 ∧ vp_in y1 24 ∧ ∀ u4 : WU, u4 = uI u 15 (upd (u.1 15) y1.toNatClampNeg ((u.1 15 y1.toNatClampNeg) + 1)) → post x2 u4))))
def wp_X1_advance (x1 : Int32) (u : WU) (post : Int32 → WU → Prop) : Prop :=
  ∃ nn : Nat, wp_X1_advance_L2 post nn x1 u
abbrev rm_X1_advance : Room := { frames := 0, cells := 0, slots := 0, locals := 0 }
def wp_X1_takeKept_L2  (post : WU → Prop) : Nat → Int32 → WU → Prop
  | 0, _, _ => False
  | n + 1, x1, u =>
  (((u.1 24 0) ≤ x1 → post u) ∧ (¬ (u.1 24 0) ≤ x1 → vp_in x1 24 ∧ ∀ y1 : Int32, y1 = u.1 14 x1.toNatClampNeg → vp_in y1 24 ∧ wp_X5_choiceOf y1 (u.1 16 y1.toNatClampNeg) u (fun r2 => vp_in y1 24 ∧ ∀ u3 : WU, u3 = uI u 2 (upd (u.1 2) y1.toNatClampNeg r2) → ∀ y4 : Int32, y4 = x1 + 1 → wp_X1_takeKept_L2 post n y4 u3)))
def wp_X1_takeKept  (u : WU) (post : WU → Prop) : Prop :=
  ∃ nn : Nat, wp_X1_takeKept_L2 post nn 0 u
abbrev rm_X1_takeKept : Room := { frames := 1, cells := 0, slots := 0, locals := 22 }
def wp_X1_lineUp_J68 (x1 : Int32) (x2 : Int32) (u : WU) (post : WU → Prop) (K7 : Int32 → WU → Prop) : Prop :=
  ∀ y12 : Int32, y12 = x2 + 1 → K7 y12 u
def wp_X1_lineUp_L7 (x1 : Int32) (post : WU → Prop) : Nat → Int32 → WU → Prop
  | 0, _, _ => False
  | n + 1, x2, u =>
  ((24 ≤ x2 → post u) ∧ (¬ 24 ≤ x2 → vp_in x2 24 ∧ ∀ y1 : Int32, y1 = u.1 6 x2.toNatClampNeg → vp_in y1 24 ∧ ∀ u2 : WU, u2 = uI u 15 (upd (u.1 15) y1.toNatClampNeg 0) → wp_X8_holds x1.toInt64 y1 (fun r3 => ((r3 = 0 → wp_X1_lineUp_J68 x1 x2 u2 post (fun (y4 : Int32) (u5 : WU) => wp_X1_lineUp_L7 x1 post n y4 u5)) ∧ (¬ r3 = 0 → ((24 ≤ (u2.1 24 0) → wp_X1_lineUp_J68 x1 x2 u2 post (fun (y6 : Int32) (u7 : WU) => wp_X1_lineUp_L7 x1 post n y6 u7)) ∧ (¬ 24 ≤ (u2.1 24 0) → vp_in (u2.1 24 0) 24 ∧ ∀ u8 : WU, u8 = uI u2 14 (upd (u2.1 14) (u2.1 24 0).toNatClampNeg y1) → ∀ u9 : WU, u9 = uI u8 24 (fun _ => (u8.1 24 0) + 1) → wp_X1_lineUp_J68 x1 x2 u9 post (fun (y10 : Int32) (u11 : WU) => wp_X1_lineUp_L7 x1 post n y10 u11))))))))
def wp_X1_lineUp (x1 : Int32) (u : WU) (post : WU → Prop) : Prop :=
  ∀ u13 : WU, u13 = uI u 24 (fun _ => 0) → ∃ nn : Nat, wp_X1_lineUp_L7 x1 post nn 0 u13
abbrev rm_X1_lineUp : Room := { frames := 1, cells := 0, slots := 0, locals := 22 }
def wp_X1_takeBest_J69 (x1 : Int32) (x3 : Int32) (x4 : Int32) (u : WU) (post : Int32 → WU → Prop) (K36 : Int32 → Int32 → WU → Prop) : Prop :=
  wp_X1_advance (if ((u.1 24 0) - 1) < x4 then ((u.1 24 0) - 1) else x4) u (fun r11 u10 => ∀ y12 : Int32, y12 = x3 + 1 → K36 r11 y12 u10)
def wp_X1_takeBest_J91  (u : WU) (post : Int32 → WU → Prop) : Prop :=
  wp_X1_takeKept u (fun u13 => post (u13.1 25 0) u13)
def wp_X1_takeBest_L36 (x1 : Int32) (post : Int32 → WU → Prop) : Nat → Int32 → Int32 → WU → Prop
  | 0, _, _, _ => False
  | n + 1, x2, x3, u =>
  ((6561 ≤ x3 → wp_X1_takeBest_J91 u post) ∧ (¬ 6561 ≤ x3 → ((x2 = (-1) → wp_X1_takeBest_J91 u post) ∧ (¬ x2 = (-1) → wp_X1_settle x1 x2 u (fun r2 u1 => ((¬ r2 = (u1.1 24 0) → wp_X1_takeBest_J69 x1 x3 r2 u1 post (fun (y3 : Int32) (y4 : Int32) (u5 : WU) => wp_X1_takeBest_L36 x1 post n y3 y4 u5)) ∧ (r2 = (u1.1 24 0) → wp_X1_keepIfBetter u1 (fun u6 => wp_X1_takeBest_J69 x1 x3 r2 u6 post (fun (y7 : Int32) (y8 : Int32) (u9 : WU) => wp_X1_takeBest_L36 x1 post n y7 y8 u9)))))))))
def wp_X1_takeBest (x1 : Int32) (u : WU) (post : Int32 → WU → Prop) : Prop :=
  wp_X2_ofProduct (u.2 6 0) u (fun r14 => wp_X1_lineUp r14 u (fun u15 => ∀ u16 : WU, u16 = uI u15 25 (fun _ => 1537) → ∀ u17 : WU, u17 = uI u16 26 (fun _ => 1537) → ∃ nn : Nat, wp_X1_takeBest_L36 x1 post nn 0 0 u17))
abbrev rm_X1_takeBest : Room := { frames := 4, cells := 0, slots := 0, locals := 89 }
def wp_X8_judge (x1 : Int32) (u : WU) (post : Int32 → WU → Prop) : Prop :=
  wp_X8_within x1 4 (fun r1 => ((r1 = 0 → post (-1) u) ∧ (¬ r1 = 0 → (((u.1 20 0) = 0 → post (-1) u) ∧ (¬ (u.1 20 0) = 0 → wp_X2_wayCount u (fun r2 => ((¬ r2 = (-1) → wp_X1_takeBest x1 u (fun r4 u3 => post r4 u3)) ∧ (r2 = (-1) → post (-1) u))))))))
abbrev rm_X8_judge : Room := { frames := 5, cells := 0, slots := 0, locals := 113 }
def wp_X9_ways_J54 (x3 : Int32) (z0 : Int64) (u : WU) (post : Int32 → WU → Prop) (K16 : Int64 → Int32 → WU → Prop) : Prop :=
  ∀ y13 : Int32, y13 = x3 + 1 → K16 z0 y13 u
def wp_X9_ways_J53 (x1 : Int64) (x3 : Int32) (u : WU) (post : Int32 → WU → Prop) (K16 : Int64 → Int32 → WU → Prop) : Prop :=
  wp_X9_ways_J54 x3 x1 u post (fun (y10 : Int64) (y11 : Int32) (u12 : WU) => K16 y10 y11 u12)
def wp_X9_ways_L16  (post : Int32 → WU → Prop) (K61 : Int64 → WU → Prop) : Nat → Int64 → Int32 → WU → Prop
  | 0, _, _, _ => False
  | n + 1, x1, x3, u =>
  (((u.1 21 0) ≤ x3 → K61 x1 u) ∧ (¬ (u.1 21 0) ≤ x3 → vp_in x3 24 ∧ (((u.1 13 x3.toNatClampNeg) = 0 → wp_X9_ways_J53 x1 x3 u post (fun (y1 : Int64) (y2 : Int32) (u3 : WU) => wp_X9_ways_L16 post K61 n y1 y2 u3)) ∧ (¬ (u.1 13 x3.toNatClampNeg) = 0 → ((0 < (lg_cmp x1 6561) → wp_X9_ways_J53 x1 x3 u post (fun (y4 : Int64) (y5 : Int32) (u6 : WU) => wp_X9_ways_L16 post K61 n y4 y5 u6)) ∧ (¬ 0 < (lg_cmp x1 6561) → vp_in x3 24 ∧ wp_X9_ways_J54 x3 (x1 * ((u.1 3 x3.toNatClampNeg).toInt64)) u post (fun (y7 : Int64) (y8 : Int32) (u9 : WU) => wp_X9_ways_L16 post K61 n y7 y8 u9)))))))
def wp_X9_ways  (u : WU) (post : Int32 → WU → Prop) : Prop :=
  wp_X9_asItIs u (fun u14 => wp_X9_reaches (u14.1 22 0) u14 (fun u15 => ∃ nn : Nat, wp_X9_ways_L16 post (fun (y16 : Int64) (u17 : WU) => (((lg_cmp y16 6561) ≤ 0 → post y16.toInt32 u17) ∧ (¬ (lg_cmp y16 6561) ≤ 0 → post (-1) u17))) nn 1 0 u15))
abbrev rm_X9_ways : Room := { frames := 1, cells := 0, slots := 0, locals := 23 }
def wp_X9_judge_J241 (x1 : Int32) (x2 : Int32) (x3 : Int32) (x4 : Int32) (x5 : Int32) (u : WU) (post : Int32 → WU → Prop) (K41 : Int32 → Int32 → Int32 → WU → Prop) : Prop :=
  ∀ y46 : Int32, y46 = x5 + 1 → K41 x3 x4 y46 u
def wp_X9_judge_L212 (x1 : Int32) (x2 : Int32) (x3 : Int32) (x4 : Int32) (x5 : Int32) (post : Int32 → WU → Prop) (K241 : WU → Prop) : Nat → Int32 → WU → Prop
  | 0, _, _ => False
  | n + 1, x9, u =>
  (((u.1 21 0) ≤ x9 → K241 u) ∧ (¬ (u.1 21 0) ≤ x9 → vp_in x9 24 ∧ vp_in x9 24 ∧ ∀ u36 : WU, u36 = uI u 19 (upd (u.1 19) x9.toNatClampNeg (u.1 18 x9.toNatClampNeg)) → ∀ y37 : Int32, y37 = x9 + 1 → wp_X9_judge_L212 x1 x2 x3 x4 x5 post K241 n y37 u36))
def wp_X9_judge_J202 (x1 : Int32) (x2 : Int32) (x5 : Int32) (x7 : Int32) (x8 : Int32) (u : WU) (post : Int32 → WU → Prop) (K41 : Int32 → Int32 → Int32 → WU → Prop) : Prop :=
  ∃ nn : Nat, wp_X9_judge_L212 x1 x2 x7 x8 x5 post (fun (u41 : WU) => wp_X9_judge_J241 x1 x2 x7 x8 x5 u41 post (fun (y42 : Int32) (y43 : Int32) (y44 : Int32) (u45 : WU) => K41 y42 y43 y44 u45)) nn 0 u
def wp_X9_judge_J144 (x1 : Int32) (x2 : Int32) (x3 : Int32) (x4 : Int32) (x5 : Int32) (x6 : Int32) (x7 : Int32) (u : WU) (post : Int32 → WU → Prop) (K59 : Int32 → Int32 → WU → Prop) : Prop :=
  ∀ y40 : Int32, y40 = x7 + (-1) → K59 x6 y40 u
def wp_X9_judge_L59 (x1 : Int32) (x2 : Int32) (x3 : Int32) (x4 : Int32) (x5 : Int32) (post : Int32 → WU → Prop) (K150 : WU → Prop) : Nat → Int32 → Int32 → WU → Prop
  | 0, _, _, _ => False
  | n + 1, x6, x7, u =>
  ((x7 < 0 → K150 u) ∧ (¬ x7 < 0 → vp_in x7 24 ∧ vp_in x7 24 ∧ ∀ u26 : WU, u26 = uI u 18 (upd (u.1 18) x7.toNatClampNeg (u.1 4 x7.toNatClampNeg)) → vp_in x7 24 ∧ ((¬ (u26.1 13 x7.toNatClampNeg) = 0 → vp_in x7 24 ∧ ¬ (u26.1 3 x7.toNatClampNeg) = 0 ∧ vp_in x7 24 ∧ ∀ u27 : WU, u27 = uI u26 18 (upd (u26.1 18) x7.toNatClampNeg (x6 - x6 / (u26.1 3 x7.toNatClampNeg) * (u26.1 3 x7.toNatClampNeg))) → vp_in x7 24 ∧ ¬ (u27.1 3 x7.toNatClampNeg) = 0 ∧ ∀ y28 : Int32, y28 = x6 / (u27.1 3 x7.toNatClampNeg) → vp_in x7 24 ∧ vp_in ((3 * x7) + (u27.1 18 x7.toNatClampNeg)) 72 ∧ vp_in x7 24 ∧ ∀ u29 : WU, u29 = uI u27 15 (upd (u27.1 15) x7.toNatClampNeg (u27.1 2 ((3 * x7) + (u27.1 18 x7.toNatClampNeg)).toNatClampNeg)) → wp_X9_judge_J144 x1 x2 x3 x4 x5 y28 x7 u29 post (fun (y30 : Int32) (y31 : Int32) (u32 : WU) => wp_X9_judge_L59 x1 x2 x3 x4 x5 post K150 n y30 y31 u32)) ∧ ((u26.1 13 x7.toNatClampNeg) = 0 → wp_X9_judge_J144 x1 x2 x3 x4 x5 x6 x7 u26 post (fun (y33 : Int32) (y34 : Int32) (u35 : WU) => wp_X9_judge_L59 x1 x2 x3 x4 x5 post K150 n y33 y34 u35)))))
def wp_X9_judge_L41 (x1 : Int32) (x2 : Int32) (post : Int32 → WU → Prop) (K247 : Int32 → WU → Prop) : Nat → Int32 → Int32 → Int32 → WU → Prop
  | 0, _, _, _, _ => False
  | n + 1, x3, x4, x5, u =>
  ((x2 ≤ x5 → K247 x3 u) ∧ (¬ x2 ≤ x5 → ∀ y1 : Int32, y1 = (u.1 21 0) - 1 → ∃ nn : Nat, wp_X9_judge_L59 x1 x2 x3 x4 x5 post (fun (u2 : WU) => wp_X9_comes x1 u2 (fun u3 => wp_X9_quarrelsNow u3 (fun r4 => vp_in (u3.1 22 0) 24 ∧ wp_X9_bits (u3.2 2 (u3.1 22 0).toNatClampNeg) (fun r5 => ((x3 = (-1) → wp_X9_judge_J202 x1 x2 x5 r4 r5 u3 post (fun (y6 : Int32) (y7 : Int32) (y8 : Int32) (u9 : WU) => wp_X9_judge_L41 x1 x2 post K247 n y6 y7 y8 u9)) ∧ (¬ x3 = (-1) → ((x3 < r4 → wp_X9_judge_J241 x1 x2 x3 x4 x5 u3 post (fun (y10 : Int32) (y11 : Int32) (y12 : Int32) (u13 : WU) => wp_X9_judge_L41 x1 x2 post K247 n y10 y11 y12 u13)) ∧ (¬ x3 < r4 → ((¬ r4 = x3 → wp_X9_judge_J202 x1 x2 x5 r4 r5 u3 post (fun (y14 : Int32) (y15 : Int32) (y16 : Int32) (u17 : WU) => wp_X9_judge_L41 x1 x2 post K247 n y14 y15 y16 u17)) ∧ (r4 = x3 → ((r5 < x4 → wp_X9_judge_J202 x1 x2 x5 r4 r5 u3 post (fun (y18 : Int32) (y19 : Int32) (y20 : Int32) (u21 : WU) => wp_X9_judge_L41 x1 x2 post K247 n y18 y19 y20 u21)) ∧ (¬ r5 < x4 → wp_X9_judge_J241 x1 x2 x3 x4 x5 u3 post (fun (y22 : Int32) (y23 : Int32) (y24 : Int32) (u25 : WU) => wp_X9_judge_L41 x1 x2 post K247 n y22 y23 y24 u25))))))))))))) nn x5 y1 u))
def wp_X9_judge_L250 (x3 : Int32) (post : Int32 → WU → Prop) : Nat → Int32 → WU → Prop
  | 0, _, _ => False
  | n + 1, x5, u =>
  (((u.1 21 0) ≤ x5 → post x3 u) ∧ (¬ (u.1 21 0) ≤ x5 → vp_in x5 24 ∧ vp_in x5 24 ∧ ∀ u38 : WU, u38 = uI u 4 (upd (u.1 4) x5.toNatClampNeg (u.1 19 x5.toNatClampNeg)) → ∀ y39 : Int32, y39 = x5 + 1 → wp_X9_judge_L250 x3 post n y39 u38))
def wp_X9_judge (x1 : Int32) (u : WU) (post : Int32 → WU → Prop) : Prop :=
  wp_X9_isShipping x1 (fun r47 => ((r47 = 0 → post (-1) u) ∧ (¬ r47 = 0 → ((¬ (u.1 21 0) = 0 → wp_X9_ways u (fun r49 u48 => ((¬ r49 = (-1) → wp_X9_works x1 u48 (fun u50 => ∃ nn : Nat, wp_X9_judge_L41 x1 r49 post (fun (y51 : Int32) (u52 : WU) => ∃ nn : Nat, wp_X9_judge_L250 y51 post nn 0 u52) nn (-1) 0 0 u50)) ∧ (r49 = (-1) → post (-1) u48)))) ∧ ((u.1 21 0) = 0 → post (-1) u)))))
abbrev rm_X9_judge : Room := { frames := 3, cells := 0, slots := 0, locals := 66 }
def wp_X0_priceOf_J30 (x1 : Int32) (x2 : Int32) (x3 : Int32) (u : WU) (post : Int32 → Prop) (K4 : Int32 → Int32 → Prop) : Prop :=
  ∀ y7 : Int32, y7 = x3 + 1 → K4 x2 y7
def wp_X0_priceOf_L4 (x1 : Int32) (u : WU) (post : Int32 → Prop) : Nat → Int32 → Int32 → Prop
  | 0, _, _ => False
  | n + 1, x2, x3 =>
  (((u.1 23 0) ≤ x3 → post x2) ∧ (¬ (u.1 23 0) ≤ x3 → wp_X8_holds x1.toInt64 x3 (fun r1 => ((r1 = 0 → wp_X0_priceOf_J30 x1 x2 x3 u post (fun (y2 : Int32) (y3 : Int32) => wp_X0_priceOf_L4 x1 u post n y2 y3)) ∧ (¬ r1 = 0 → vp_in x3 10 ∧ ∀ y4 : Int32, y4 = x2 + (u.1 13 x3.toNatClampNeg) → wp_X0_priceOf_J30 x1 y4 x3 u post (fun (y5 : Int32) (y6 : Int32) => wp_X0_priceOf_L4 x1 u post n y5 y6))))))
def wp_X0_priceOf (x1 : Int32) (u : WU) (post : Int32 → Prop) : Prop :=
  ∃ nn : Nat, wp_X0_priceOf_L4 x1 u post nn 0 0
abbrev rm_X0_priceOf : Room := { frames := 1, cells := 0, slots := 0, locals := 22 }
def wp_J6_compare_7cf53 (x0 : Int32) (x1 : Int32) (post : Int32 → Prop) : Prop :=
  ((x1 ≤ x0 → ((¬ x0 = x1 → post 1) ∧ (x0 = x1 → post 0))) ∧ (¬ x1 ≤ x0 → post (-1)))
abbrev rm_J6_compare_7cf53 : Room := { frames := 0, cells := 0, slots := 0, locals := 0 }
def wp_J6_bitCount_0f7a4 (x0 : Int32) (post : Int32 → Prop) : Prop :=
  ∀ y1 : Int32, y1 = x0 - ((jiushr x0 1) &&& 1431655765) → ∀ y2 : Int32, y2 = (y1 &&& 858993459) + ((jiushr y1 2) &&& 858993459) → ∀ y3 : Int32, y3 = (y2 + (jiushr y2 4)) &&& 252645135 → ∀ y4 : Int32, y4 = y3 + (jiushr y3 8) → ∀ y5 : Int32, y5 = y4 + (jiushr y4 16) → post (y5 &&& 63)
abbrev rm_J6_bitCount_0f7a4 : Room := { frames := 0, cells := 0, slots := 0, locals := 0 }
def wp_J6_lowestOneBit_0f7a4 (x0 : Int32) (post : Int32 → Prop) : Prop :=
  post (x0 &&& (-x0))
abbrev rm_J6_lowestOneBit_0f7a4 : Room := { frames := 0, cells := 0, slots := 0, locals := 0 }
def wp_X0_isBetter (x1 : Int32) (x2 : Int32) (u : WU) (post : Int32 → Prop) : Prop :=
  wp_X0_priceOf x1 u (fun r1 => wp_X0_priceOf x2 u (fun r2 => wp_J6_compare_7cf53 r1 r2 (fun r3 => ((r3 = 0 → wp_J6_bitCount_0f7a4 x1 (fun r4 => wp_J6_bitCount_0f7a4 x2 (fun r5 => wp_J6_compare_7cf53 r4 r5 (fun r6 => ((r6 = 0 → wp_J6_lowestOneBit_0f7a4 (x1 ^^^ x2) (fun r7 => (((r7 &&& x1) = 0 → post 0) ∧ (¬ (r7 &&& x1) = 0 → post 1)))) ∧ (¬ r6 = 0 → ((0 ≤ r6 → post 0) ∧ (¬ 0 ≤ r6 → post 1)))))))) ∧ (¬ r3 = 0 → ((0 ≤ r3 → post 0) ∧ (¬ 0 ≤ r3 → post 1)))))))
abbrev rm_X0_isBetter : Room := { frames := 2, cells := 0, slots := 0, locals := 45 }
def wp_X2_run_c33_L3 (x1 : Int32) (x3 : Int64) (post : WU → Prop) : Nat → Int32 → WU → Prop
  | 0, _, _ => False
  | n + 1, x5, u =>
  ((24 ≤ x5 → post u) ∧ (¬ 24 ≤ x5 → vp_in x5 24 ∧ ∀ y1 : Int32, y1 = u.1 6 x5.toNatClampNeg → vp_in y1 24 ∧ wp_X2_brought x1 y1 (u.1 18 y1.toNatClampNeg) u (fun r2 => wp_X2_arrive y1 r2 x3 u (fun u3 => ∀ y4 : Int32, y4 = x5 + 1 → wp_X2_run_c33_L3 x1 x3 post n y4 u3))))
def wp_X2_run_c33 (x1 : Int32) (x3 : Int64) (u : WU) (post : WU → Prop) : Prop :=
  ∃ nn : Nat, wp_X2_run_c33_L3 x1 x3 post nn 0 u
def wp_X2_quarrelCount_c33_J54 (x4 : Int32) (x5 : Int32) (x6 : Int32) (u : WU) (post : Int32 → Prop) (K13 : Int32 → Int32 → Prop) : Prop :=
  ∀ y9 : Int32, y9 = x6 + 1 → K13 x5 y9
def wp_X2_quarrelCount_c33_L13 (x4 : Int32) (u : WU) (post : Int32 → Prop) : Nat → Int32 → Int32 → Prop
  | 0, _, _ => False
  | n + 1, x5, x6 =>
  (((u.1 20 0) ≤ x6 → post x5) ∧ (¬ (u.1 20 0) ≤ x6 → wp_X8_holds x4.toInt64 x6 (fun r1 => ((r1 = 0 → wp_X2_quarrelCount_c33_J54 x4 x5 x6 u post (fun (y2 : Int32) (y3 : Int32) => wp_X2_quarrelCount_c33_L13 x4 u post n y2 y3)) ∧ (¬ r1 = 0 → vp_in x6 24 ∧ wp_X2_foughtAt x6 (u.1 18 x6.toNatClampNeg) u (fun r4 => wp_J13_bitCount_95d88 r4 (fun r5 => ∀ y6 : Int32, y6 = x5 + r5 → wp_X2_quarrelCount_c33_J54 x4 y6 x6 u post (fun (y7 : Int32) (y8 : Int32) => wp_X2_quarrelCount_c33_L13 x4 u post n y7 y8))))))))
def wp_X2_quarrelCount_c33 (x2 : Int64) (u : WU) (post : Int32 → Prop) : Prop :=
  wp_X2_ofProduct x2 u (fun r10 => ∃ nn : Nat, wp_X2_quarrelCount_c33_L13 r10 u post nn 0 0)
def wp_X4_endsQuarrels_J114 (x1 : Int32) (x2 : Int32) (x3 : Int64) (x5 : Int32) (u : WU) (post : Int32 → WU → Prop) (K29 : Int64 → Int32 → WU → Prop) : Prop :=
  ∀ y13 : Int32, y13 = x5 + 1 → K29 x3 y13 u
def wp_X4_endsQuarrels_L29 (x1 : Int32) (x2 : Int32) (post : Int32 → WU → Prop) (K120 : Int64 → WU → Prop) : Nat → Int64 → Int32 → WU → Prop
  | 0, _, _, _ => False
  | n + 1, x3, x5, u =>
  (((u.1 23 0) ≤ x5 → K120 x3 u) ∧ (¬ (u.1 23 0) ≤ x5 → wp_X8_holds x2.toInt64 x5 (fun r1 => ((¬ r1 = 0 → vp_in x5 10 ∧ ((¬ (u.1 10 x5.toNatClampNeg) = 0 → vp_in x5 10 ∧ ∀ y2 : Int64, y2 = x3 &&& ((jshl 1 (u.1 11 x5.toNatClampNeg)) ^^^ (-1)) → wp_X4_endsQuarrels_J114 x1 x2 y2 x5 u post (fun (y3 : Int64) (y4 : Int32) (u5 : WU) => wp_X4_endsQuarrels_L29 x1 x2 post K120 n y3 y4 u5)) ∧ ((u.1 10 x5.toNatClampNeg) = 0 → vp_in x5 10 ∧ vp_in x5 10 ∧ vp_in (u.1 11 x5.toNatClampNeg) 24 ∧ ∀ u6 : WU, u6 = uI u 18 (upd (u.1 18) (u.1 11 x5.toNatClampNeg).toNatClampNeg (u.1 12 x5.toNatClampNeg)) → wp_X4_endsQuarrels_J114 x1 x2 x3 x5 u6 post (fun (y7 : Int64) (y8 : Int32) (u9 : WU) => wp_X4_endsQuarrels_L29 x1 x2 post K120 n y7 y8 u9)))) ∧ (r1 = 0 → wp_X4_endsQuarrels_J114 x1 x2 x3 x5 u post (fun (y10 : Int64) (y11 : Int32) (u12 : WU) => wp_X4_endsQuarrels_L29 x1 x2 post K120 n y10 y11 u12))))))
def wp_X4_endsQuarrels (x1 : Int32) (x2 : Int32) (u : WU) (post : Int32 → WU → Prop) : Prop :=
  ∀ u14 : WU, u14 = uI u 18 (va_cpy (u.1 2) (u.1 18) (0 : Int32).toNatClampNeg (0 : Int32).toNatClampNeg (24 : Int32).toNatClampNeg) → ∀ y15 : Int64, y15 = u14.2 6 0 → ∃ nn : Nat, wp_X4_endsQuarrels_L29 x1 x2 post (fun (y16 : Int64) (u17 : WU) => wp_X2_run_c33 x1 y16 u17 (fun u18 => wp_X2_quarrelCount_c33 y16 u18 (fun r19 => ((¬ r19 = 0 → post 0 u18) ∧ (r19 = 0 → post 1 u18))))) nn y15 0 u14
abbrev rm_X4_endsQuarrels : Room := { frames := 4, cells := 0, slots := 0, locals := 98 }
def wp_X4_cheapestSet_J52 (x1 : Int32) (x2 : Int32) (x3 : Int32) (x4 : Int32) (u : WU) (post : Int32 → WU → Prop) (K15 : Int32 → Int32 → WU → Prop) : Prop :=
  ∀ y19 : Int32, y19 = x4 + 1 → K15 x2 y19 u
def wp_X4_cheapestSet_J39 (x1 : Int32) (x2 : Int32) (x3 : Int32) (x4 : Int32) (u : WU) (post : Int32 → WU → Prop) (K15 : Int32 → Int32 → WU → Prop) : Prop :=
  wp_X4_endsQuarrels x1 x4 u (fun r12 u11 => ((r12 = 0 → wp_X4_cheapestSet_J52 x1 x2 x3 x4 u11 post (fun (y13 : Int32) (y14 : Int32) (u15 : WU) => K15 y13 y14 u15)) ∧ (¬ r12 = 0 → wp_X4_cheapestSet_J52 x1 x4 x3 x4 u11 post (fun (y16 : Int32) (y17 : Int32) (u18 : WU) => K15 y16 y17 u18))))
def wp_X4_cheapestSet_L15 (x1 : Int32) (x3 : Int32) (post : Int32 → WU → Prop) : Nat → Int32 → Int32 → WU → Prop
  | 0, _, _, _ => False
  | n + 1, x2, x4, u =>
  ((x3 ≤ x4 → post x2 u) ∧ (¬ x3 ≤ x4 → ((x2 = (-1) → wp_X4_cheapestSet_J39 x1 x2 x3 x4 u post (fun (y1 : Int32) (y2 : Int32) (u3 : WU) => wp_X4_cheapestSet_L15 x1 x3 post n y1 y2 u3)) ∧ (¬ x2 = (-1) → wp_X0_isBetter x4 x2 u (fun r4 => ((r4 = 0 → wp_X4_cheapestSet_J52 x1 x2 x3 x4 u post (fun (y5 : Int32) (y6 : Int32) (u7 : WU) => wp_X4_cheapestSet_L15 x1 x3 post n y5 y6 u7)) ∧ (¬ r4 = 0 → wp_X4_cheapestSet_J39 x1 x2 x3 x4 u post (fun (y8 : Int32) (y9 : Int32) (u10 : WU) => wp_X4_cheapestSet_L15 x1 x3 post n y8 y9 u10))))))))
def wp_X4_cheapestSet (x1 : Int32) (u : WU) (post : Int32 → WU → Prop) : Prop :=
  ∀ y20 : Int32, y20 = 1 <<< ((u.1 23 0) &&& 31) → ∃ nn : Nat, wp_X4_cheapestSet_L15 x1 y20 post nn (-1) 0 u
abbrev rm_X4_cheapestSet : Room := { frames := 5, cells := 0, slots := 0, locals := 123 }
def wp_X8_cheapest (x1 : Int32) (u : WU) (post : Int32 → WU → Prop) : Prop :=
  wp_X8_within x1 4 (fun r1 => ((r1 = 0 → post (-1) u) ∧ (¬ r1 = 0 → wp_X4_cheapestSet x1 u (fun r3 u2 => post r3 u2))))
abbrev rm_X8_cheapest : Room := { frames := 6, cells := 0, slots := 0, locals := 147 }
def wp_X9_priceOf_J32 (x1 : Int32) (x3 : Int32) (z0 : Int32) (z1 : Int32) (u : WU) (post : Int32 → Prop) (K4 : Int32 → Int32 → Prop) : Prop :=
  ∀ y5 : Int32, y5 = z0 + z1 → ∀ y6 : Int32, y6 = x3 + 1 → K4 y5 y6
def wp_X9_priceOf_L4 (x1 : Int32) (u : WU) (post : Int32 → Prop) : Nat → Int32 → Int32 → Prop
  | 0, _, _ => False
  | n + 1, x2, x3 =>
  (((u.1 24 0) ≤ x3 → post x2) ∧ (¬ (u.1 24 0) ≤ x3 → ((¬ ((x1 >>> (x3 &&& 31)) &&& 1) = 1 → wp_X9_priceOf_J32 x1 x3 x2 0 u post (fun (y1 : Int32) (y2 : Int32) => wp_X9_priceOf_L4 x1 u post n y1 y2)) ∧ (((x1 >>> (x3 &&& 31)) &&& 1) = 1 → vp_in x3 10 ∧ wp_X9_priceOf_J32 x1 x3 x2 (u.1 12 x3.toNatClampNeg) u post (fun (y3 : Int32) (y4 : Int32) => wp_X9_priceOf_L4 x1 u post n y3 y4)))))
def wp_X9_priceOf (x1 : Int32) (u : WU) (post : Int32 → Prop) : Prop :=
  ∃ nn : Nat, wp_X9_priceOf_L4 x1 u post nn 0 0
abbrev rm_X9_priceOf : Room := { frames := 0, cells := 0, slots := 0, locals := 0 }
def wp_X9_isAhead (x0 : Int32) (x1 : Int32) (post : Int32 → Prop) : Prop :=
  wp_X9_bits x0.toInt64 (fun r1 => wp_X9_bits x1.toInt64 (fun r2 => ((r1 = r2 → ∀ y3 : Int32, y3 = (x0 ^^^ x1) &&& (-(x0 ^^^ x1)) → (((x0 &&& y3) = 0 → post 0) ∧ (¬ (x0 &&& y3) = 0 → post 1))) ∧ (¬ r1 = r2 → wp_X9_bits x0.toInt64 (fun r4 => wp_X9_bits x1.toInt64 (fun r5 => ((r5 ≤ r4 → post 0) ∧ (¬ r5 ≤ r4 → post 1))))))))
abbrev rm_X9_isAhead : Room := { frames := 1, cells := 0, slots := 0, locals := 24 }
def wp_X9_quarrelsWith_J66 (x1 : Int32) (x2 : Int32) (x3 : Int32) (u : WU) (post : Int32 → WU → Prop) (K6 : Int32 → WU → Prop) : Prop :=
  ∀ y13 : Int32, y13 = x3 + 1 → K6 y13 u
def wp_X9_quarrelsWith_L6 (x1 : Int32) (x2 : Int32) (post : Int32 → WU → Prop) : Nat → Int32 → WU → Prop
  | 0, _, _ => False
  | n + 1, x3, u =>
  (((u.1 24 0) ≤ x3 → wp_X9_orders u (fun u1 => wp_X9_reaches (u1.1 22 0) u1 (fun u2 => wp_X9_comes x1 u2 (fun u3 => wp_X9_quarrelsNow u3 (fun r4 => post r4 u3))))) ∧ (¬ (u.1 24 0) ≤ x3 → ((¬ ((x2 >>> (x3 &&& 31)) &&& 1) = 0 → vp_in x3 10 ∧ ((¬ (u.1 9 x3.toNatClampNeg) = 0 → vp_in x3 10 ∧ vp_in (u.1 10 x3.toNatClampNeg) 40 ∧ ∀ u5 : WU, u5 = uI u 14 (upd (u.1 14) (u.1 10 x3.toNatClampNeg).toNatClampNeg (vp_nar .boolean 1)) → wp_X9_quarrelsWith_J66 x1 x2 x3 u5 post (fun (y6 : Int32) (u7 : WU) => wp_X9_quarrelsWith_L6 x1 x2 post n y6 u7)) ∧ ((u.1 9 x3.toNatClampNeg) = 0 → vp_in x3 10 ∧ vp_in x3 10 ∧ vp_in (u.1 10 x3.toNatClampNeg) 24 ∧ ∀ u8 : WU, u8 = uI u 15 (upd (u.1 15) (u.1 10 x3.toNatClampNeg).toNatClampNeg (u.1 11 x3.toNatClampNeg)) → wp_X9_quarrelsWith_J66 x1 x2 x3 u8 post (fun (y9 : Int32) (u10 : WU) => wp_X9_quarrelsWith_L6 x1 x2 post n y9 u10)))) ∧ (((x2 >>> (x3 &&& 31)) &&& 1) = 0 → wp_X9_quarrelsWith_J66 x1 x2 x3 u post (fun (y11 : Int32) (u12 : WU) => wp_X9_quarrelsWith_L6 x1 x2 post n y11 u12)))))
def wp_X9_quarrelsWith (x1 : Int32) (x2 : Int32) (u : WU) (post : Int32 → WU → Prop) : Prop :=
  wp_X9_asItIs u (fun u14 => ∃ nn : Nat, wp_X9_quarrelsWith_L6 x1 x2 post nn 0 u14)
abbrev rm_X9_quarrelsWith : Room := { frames := 2, cells := 0, slots := 0, locals := 46 }
def wp_X9_cheapest_J77 (x1 : Int32) (x2 : Int32) (x3 : Int32) (u : WU) (post : Int32 → WU → Prop) (K13 : Int32 → Int32 → WU → Prop) : Prop :=
  ∀ y28 : Int32, y28 = x3 + 1 → K13 x2 y28 u
def wp_X9_cheapest_J63 (x1 : Int32) (x2 : Int32) (x3 : Int32) (u : WU) (post : Int32 → WU → Prop) (K13 : Int32 → Int32 → WU → Prop) : Prop :=
  wp_X9_quarrelsWith x1 x3 u (fun r21 u20 => ((r21 ≤ 0 → wp_X9_cheapest_J77 x1 x3 x3 u20 post (fun (y22 : Int32) (y23 : Int32) (u24 : WU) => K13 y22 y23 u24)) ∧ (¬ r21 ≤ 0 → wp_X9_cheapest_J77 x1 x2 x3 u20 post (fun (y25 : Int32) (y26 : Int32) (u27 : WU) => K13 y25 y26 u27))))
def wp_X9_cheapest_L13 (x1 : Int32) (post : Int32 → WU → Prop) : Nat → Int32 → Int32 → WU → Prop
  | 0, _, _, _ => False
  | n + 1, x2, x3, u =>
  (((1 <<< ((u.1 24 0) &&& 31)) ≤ x3 → post x2 u) ∧ (¬ (1 <<< ((u.1 24 0) &&& 31)) ≤ x3 → wp_X9_priceOf x3 u (fun r1 => ((x2 = (-1) → wp_X9_cheapest_J63 x1 x2 x3 u post (fun (y2 : Int32) (y3 : Int32) (u4 : WU) => wp_X9_cheapest_L13 x1 post n y2 y3 u4)) ∧ (¬ x2 = (-1) → wp_X9_priceOf x2 u (fun r5 => ((r5 < r1 → wp_X9_cheapest_J77 x1 x2 x3 u post (fun (y6 : Int32) (y7 : Int32) (u8 : WU) => wp_X9_cheapest_L13 x1 post n y6 y7 u8)) ∧ (¬ r5 < r1 → wp_X9_priceOf x2 u (fun r9 => ((¬ r1 = r9 → wp_X9_cheapest_J63 x1 x2 x3 u post (fun (y10 : Int32) (y11 : Int32) (u12 : WU) => wp_X9_cheapest_L13 x1 post n y10 y11 u12)) ∧ (r1 = r9 → wp_X9_isAhead x3 x2 (fun r13 => ((r13 = 0 → wp_X9_cheapest_J77 x1 x2 x3 u post (fun (y14 : Int32) (y15 : Int32) (u16 : WU) => wp_X9_cheapest_L13 x1 post n y14 y15 u16)) ∧ (¬ r13 = 0 → wp_X9_cheapest_J63 x1 x2 x3 u post (fun (y17 : Int32) (y18 : Int32) (u19 : WU) => wp_X9_cheapest_L13 x1 post n y17 y18 u19)))))))))))))))
def wp_X9_cheapest (x1 : Int32) (u : WU) (post : Int32 → WU → Prop) : Prop :=
  wp_X9_isShipping x1 (fun r29 => ((¬ r29 = 0 → ∃ nn : Nat, wp_X9_cheapest_L13 x1 post nn (-1) 0 u) ∧ (r29 = 0 → post (-1) u)))
abbrev rm_X9_cheapest : Room := { frames := 3, cells := 0, slots := 0, locals := 69 }
def wp_X8_price (x1 : Int32) (u : WU) (post : Int32 → Prop) : Prop :=
  wp_X8_within x1 (1 <<< ((u.1 23 0) &&& 31)) (fun r1 => ((r1 = 0 → post (-1)) ∧ (¬ r1 = 0 → wp_X0_priceOf x1 u (fun r2 => post r2))))
abbrev rm_X8_price : Room := { frames := 2, cells := 0, slots := 0, locals := 45 }
def wp_X9_price (x1 : Int32) (u : WU) (post : Int32 → Prop) : Prop :=
  wp_X9_lies x1 0 ((1 <<< ((u.1 24 0) &&& 31)) - 1) (fun r1 => ((r1 = 0 → post (-1)) ∧ (¬ r1 = 0 → wp_X9_priceOf x1 u (fun r2 => post r2))))
abbrev rm_X9_price : Room := { frames := 1, cells := 0, slots := 0, locals := 23 }
def wp_X7_goes (x1 : Int32) (x2 : Int32) (u : WU) (post : Int32 → Prop) : Prop :=
  vp_in x2 40 ∧ vp_in (u.1 5 x2.toNatClampNeg) 4 ∧ wp_X8_holds (u.2 1 (u.1 5 x2.toNatClampNeg).toNatClampNeg) x1 (fun r1 => bl r1 ∧ post r1)
abbrev rm_X7_goes : Room := { frames := 1, cells := 0, slots := 0, locals := 22 }
def wp_X7_next_J109 (x1 : Int32) (x2 : Int32) (x3 : Int32) (x4 : Int32) (u : WU) (post : Int32 → Prop) (K5 : Int32 → Int32 → Prop) : Prop :=
  ∀ y26 : Int32, y26 = x4 + 1 → K5 x3 y26
def wp_X7_next_J106 (x1 : Int32) (x2 : Int32) (x4 : Int32) (x5 : Int32) (u : WU) (post : Int32 → Prop) (K5 : Int32 → Int32 → Prop) : Prop :=
  wp_X7_next_J109 x1 x2 x5 x4 u post (fun (y24 : Int32) (y25 : Int32) => K5 y24 y25)
def wp_X7_next_J88 (x1 : Int32) (x2 : Int32) (x3 : Int32) (x4 : Int32) (x5 : Int32) (z0 : Int32) (u : WU) (post : Int32 → Prop) (K5 : Int32 → Int32 → Prop) : Prop :=
  ((z0 = 0 → wp_X7_next_J109 x1 x2 x3 x4 u post (fun (y16 : Int32) (y17 : Int32) => K5 y16 y17)) ∧ (¬ z0 = 0 → ((x3 = (-1) → wp_X7_next_J106 x1 x2 x4 x5 u post (fun (y18 : Int32) (y19 : Int32) => K5 y18 y19)) ∧ (¬ x3 = (-1) → ((x3 ≤ x5 → wp_X7_next_J109 x1 x2 x3 x4 u post (fun (y20 : Int32) (y21 : Int32) => K5 y20 y21)) ∧ (¬ x3 ≤ x5 → wp_X7_next_J106 x1 x2 x4 x5 u post (fun (y22 : Int32) (y23 : Int32) => K5 y22 y23)))))))
def wp_X7_next_J87 (x1 : Int32) (x2 : Int32) (x3 : Int32) (x4 : Int32) (x5 : Int32) (u : WU) (post : Int32 → Prop) (K5 : Int32 → Int32 → Prop) : Prop :=
  wp_X7_next_J88 x1 x2 x3 x4 x5 0 u post (fun (y14 : Int32) (y15 : Int32) => K5 y14 y15)
def wp_X7_next_L5 (x1 : Int32) (x2 : Int32) (u : WU) (post : Int32 → Prop) : Nat → Int32 → Int32 → Prop
  | 0, _, _ => False
  | n + 1, x3, x4 =>
  (((u.1 22 0) ≤ x4 → post x3) ∧ (¬ (u.1 22 0) ≤ x4 → vp_in x4 40 ∧ ∀ y1 : Int32, y1 = u.1 4 x4.toNatClampNeg → wp_X3_isThere x4 u (fun r2 => ((r2 = 0 → wp_X7_next_J87 x1 x2 x3 x4 y1 u post (fun (y3 : Int32) (y4 : Int32) => wp_X7_next_L5 x1 x2 u post n y3 y4)) ∧ (¬ r2 = 0 → vp_in x4 40 ∧ ((¬ (u.1 3 x4.toNatClampNeg) = x2 → wp_X7_next_J87 x1 x2 x3 x4 y1 u post (fun (y5 : Int32) (y6 : Int32) => wp_X7_next_L5 x1 x2 u post n y5 y6)) ∧ ((u.1 3 x4.toNatClampNeg) = x2 → wp_X7_goes x1 x4 u (fun r7 => ((r7 = 0 → wp_X7_next_J87 x1 x2 x3 x4 y1 u post (fun (y8 : Int32) (y9 : Int32) => wp_X7_next_L5 x1 x2 u post n y8 y9)) ∧ (¬ r7 = 0 → vp_in y1 24 ∧ vp_in x2 24 ∧ ((¬ (u.1 19 y1.toNatClampNeg) = ((u.1 19 x2.toNatClampNeg) - 1) → wp_X7_next_J87 x1 x2 x3 x4 y1 u post (fun (y10 : Int32) (y11 : Int32) => wp_X7_next_L5 x1 x2 u post n y10 y11)) ∧ ((u.1 19 y1.toNatClampNeg) = ((u.1 19 x2.toNatClampNeg) - 1) → wp_X7_next_J88 x1 x2 x3 x4 y1 1 u post (fun (y12 : Int32) (y13 : Int32) => wp_X7_next_L5 x1 x2 u post n y12 y13)))))))))))))
def wp_X7_next (x1 : Int32) (x2 : Int32) (u : WU) (post : Int32 → Prop) : Prop :=
  ∃ nn : Nat, wp_X7_next_L5 x1 x2 u post nn (-1) 0
abbrev rm_X7_next : Room := { frames := 2, cells := 0, slots := 0, locals := 44 }
def wp_X7_measureInto_J98 (x1 : Int32) (x2 : Int32) (x3 : Int32) (x4 : Int32) (u : WU) (post : WU → Prop) (K20 : Int32 → WU → Prop) : Prop :=
  ∀ y15 : Int32, y15 = x4 + 1 → K20 y15 u
def wp_X7_measureInto_J90 (x1 : Int32) (x2 : Int32) (x3 : Int32) (x4 : Int32) (x6 : Int32) (u : WU) (post : WU → Prop) (K20 : Int32 → WU → Prop) : Prop :=
  vp_in x6 24 ∧ ∀ u12 : WU, u12 = uI u 19 (upd (u.1 19) x6.toNatClampNeg x3) → wp_X7_measureInto_J98 x1 x2 x3 x4 u12 post (fun (y13 : Int32) (u14 : WU) => K20 y13 u14)
def wp_X7_measureInto_L20 (x1 : Int32) (x2 : Int32) (x3 : Int32) (post : WU → Prop) : Nat → Int32 → WU → Prop
  | 0, _, _ => False
  | n + 1, x4, u =>
  vp_in x2 24 ∧ (((u.1 9 x2.toNatClampNeg) ≤ x4 → post u) ∧ (¬ (u.1 9 x2.toNatClampNeg) ≤ x4 → vp_in x4 40 ∧ ∀ y1 : Int32, y1 = u.1 7 x4.toNatClampNeg → vp_in y1 40 ∧ ∀ y2 : Int32, y2 = u.1 3 y1.toNatClampNeg → wp_X7_goes x1 y1 u (fun r3 => ((r3 = 0 → wp_X7_measureInto_J98 x1 x2 x3 x4 u post (fun (y4 : Int32) (u5 : WU) => wp_X7_measureInto_L20 x1 x2 x3 post n y4 u5)) ∧ (¬ r3 = 0 → vp_in y2 24 ∧ (((u.1 19 y2.toNatClampNeg) = (-1) → wp_X7_measureInto_J90 x1 x2 x3 x4 y2 u post (fun (y6 : Int32) (u7 : WU) => wp_X7_measureInto_L20 x1 x2 x3 post n y6 u7)) ∧ (¬ (u.1 19 y2.toNatClampNeg) = (-1) → vp_in y2 24 ∧ (((u.1 19 y2.toNatClampNeg) ≤ x3 → wp_X7_measureInto_J98 x1 x2 x3 x4 u post (fun (y8 : Int32) (u9 : WU) => wp_X7_measureInto_L20 x1 x2 x3 post n y8 u9)) ∧ (¬ (u.1 19 y2.toNatClampNeg) ≤ x3 → wp_X7_measureInto_J90 x1 x2 x3 x4 y2 u post (fun (y10 : Int32) (u11 : WU) => wp_X7_measureInto_L20 x1 x2 x3 post n y10 u11))))))))))
def wp_X7_measureInto (x1 : Int32) (x2 : Int32) (u : WU) (post : WU → Prop) : Prop :=
  vp_in x2 24 ∧ ∀ y16 : Int32, y16 = (u.1 19 x2.toNatClampNeg) + 1 → vp_in x2 24 ∧ ∀ y17 : Int32, y17 = u.1 8 x2.toNatClampNeg → ∃ nn : Nat, wp_X7_measureInto_L20 x1 x2 y16 post nn y17 u
abbrev rm_X7_measureInto : Room := { frames := 2, cells := 0, slots := 0, locals := 44 }
def wp_X7_measure_L2 (x1 : Int32) (x2 : Int32) (post : WU → Prop) (K21 : WU → Prop) : Nat → Int32 → WU → Prop
  | 0, _, _ => False
  | n + 1, x3, u =>
  ((24 ≤ x3 → K21 u) ∧ (¬ 24 ≤ x3 → vp_in x3 24 ∧ ∀ u1 : WU, u1 = uI u 19 (upd (u.1 19) x3.toNatClampNeg (-1)) → ∀ y2 : Int32, y2 = x3 + 1 → wp_X7_measure_L2 x1 x2 post K21 n y2 u1))
def wp_X7_measure_J64 (x1 : Int32) (x3 : Int32) (u : WU) (post : WU → Prop) (K31 : Int32 → WU → Prop) : Prop :=
  ∀ y9 : Int32, y9 = x3 + (-1) → K31 y9 u
def wp_X7_measure_L31 (x1 : Int32) (post : WU → Prop) : Nat → Int32 → WU → Prop
  | 0, _, _ => False
  | n + 1, x3, u =>
  ((x3 < 0 → post u) ∧ (¬ x3 < 0 → vp_in x3 24 ∧ ∀ y3 : Int32, y3 = u.1 6 x3.toNatClampNeg → vp_in y3 24 ∧ (((u.1 19 y3.toNatClampNeg) = (-1) → wp_X7_measure_J64 x1 x3 u post (fun (y4 : Int32) (u5 : WU) => wp_X7_measure_L31 x1 post n y4 u5)) ∧ (¬ (u.1 19 y3.toNatClampNeg) = (-1) → wp_X7_measureInto x1 y3 u (fun u6 => wp_X7_measure_J64 x1 x3 u6 post (fun (y7 : Int32) (u8 : WU) => wp_X7_measure_L31 x1 post n y7 u8))))))
def wp_X7_measure (x1 : Int32) (x2 : Int32) (u : WU) (post : WU → Prop) : Prop :=
  ∃ nn : Nat, wp_X7_measure_L2 x1 x2 post (fun (u10 : WU) => vp_in x2 24 ∧ ∀ u11 : WU, u11 = uI u10 19 (upd (u10.1 19) x2.toNatClampNeg 0) → ∃ nn : Nat, wp_X7_measure_L31 x1 post nn 23 u11) nn 0 u
abbrev rm_X7_measure : Room := { frames := 3, cells := 0, slots := 0, locals := 70 }
def wp_X7_brings (x1 : Int32) (x2 : Int32) (x3 : Int32) (u : WU) (post : Int32 → Prop) : Prop :=
  vp_in x2 24 ∧ wp_X2_brought x1 x2 (u.1 2 x2.toNatClampNeg) u (fun r1 => wp_X8_holds r1 x3 (fun r2 => bl r2 ∧ post r2))
abbrev rm_X7_brings : Room := { frames := 3, cells := 0, slots := 0, locals := 64 }
def wp_X7_source_J75 (x1 : Int32) (x2 : Int32) (x3 : Int32) (x4 : Int32) (u : WU) (post : Int32 → Prop) (K5 : Int32 → Int32 → Prop) : Prop :=
  ∀ y20 : Int32, y20 = x4 + 1 → K5 x3 y20
def wp_X7_source_J54 (x1 : Int32) (x2 : Int32) (x3 : Int32) (x4 : Int32) (z0 : Int32) (u : WU) (post : Int32 → Prop) (K5 : Int32 → Int32 → Prop) : Prop :=
  ((z0 = 0 → wp_X7_source_J75 x1 x2 x3 x4 u post (fun (y13 : Int32) (y14 : Int32) => K5 y13 y14)) ∧ (¬ z0 = 0 → wp_X7_brings x1 x4 x2 u (fun r15 => ((r15 = 0 → wp_X7_source_J75 x1 x2 x3 x4 u post (fun (y16 : Int32) (y17 : Int32) => K5 y16 y17)) ∧ (¬ r15 = 0 → wp_X7_source_J75 x1 x2 x4 x4 u post (fun (y18 : Int32) (y19 : Int32) => K5 y18 y19))))))
def wp_X7_source_J49 (x1 : Int32) (x2 : Int32) (x3 : Int32) (x4 : Int32) (u : WU) (post : Int32 → Prop) (K5 : Int32 → Int32 → Prop) : Prop :=
  wp_X7_source_J54 x1 x2 x3 x4 1 u post (fun (y9 : Int32) (y10 : Int32) => K5 y9 y10)
def wp_X7_source_J53 (x1 : Int32) (x2 : Int32) (x3 : Int32) (x4 : Int32) (u : WU) (post : Int32 → Prop) (K5 : Int32 → Int32 → Prop) : Prop :=
  wp_X7_source_J54 x1 x2 x3 x4 0 u post (fun (y11 : Int32) (y12 : Int32) => K5 y11 y12)
def wp_X7_source_L5 (x1 : Int32) (x2 : Int32) (u : WU) (post : Int32 → Prop) : Nat → Int32 → Int32 → Prop
  | 0, _, _ => False
  | n + 1, x3, x4 =>
  (((u.1 20 0) ≤ x4 → post x3) ∧ (¬ (u.1 20 0) ≤ x4 → vp_in x4 24 ∧ (((u.1 19 x4.toNatClampNeg) = (-1) → wp_X7_source_J53 x1 x2 x3 x4 u post (fun (y1 : Int32) (y2 : Int32) => wp_X7_source_L5 x1 x2 u post n y1 y2)) ∧ (¬ (u.1 19 x4.toNatClampNeg) = (-1) → ((x3 = (-1) → wp_X7_source_J49 x1 x2 x3 x4 u post (fun (y3 : Int32) (y4 : Int32) => wp_X7_source_L5 x1 x2 u post n y3 y4)) ∧ (¬ x3 = (-1) → vp_in x4 24 ∧ vp_in x3 24 ∧ (((u.1 19 x3.toNatClampNeg) ≤ (u.1 19 x4.toNatClampNeg) → wp_X7_source_J53 x1 x2 x3 x4 u post (fun (y5 : Int32) (y6 : Int32) => wp_X7_source_L5 x1 x2 u post n y5 y6)) ∧ (¬ (u.1 19 x3.toNatClampNeg) ≤ (u.1 19 x4.toNatClampNeg) → wp_X7_source_J49 x1 x2 x3 x4 u post (fun (y7 : Int32) (y8 : Int32) => wp_X7_source_L5 x1 x2 u post n y7 y8)))))))))
def wp_X7_source (x1 : Int32) (x2 : Int32) (u : WU) (post : Int32 → Prop) : Prop :=
  ∃ nn : Nat, wp_X7_source_L5 x1 x2 u post nn (-1) 0
abbrev rm_X7_source : Room := { frames := 4, cells := 0, slots := 0, locals := 87 }
def wp_X7_partOnWay_L42 (x2 : Int32) (x4 : Int32) (post : Int32 → WU → Prop) : Nat → Int32 → Int32 → WU → Prop
  | 0, _, _, _ => False
  | n + 1, x5, x6, u =>
  ((x4 ≤ x6 → post x5 u) ∧ (¬ x4 ≤ x6 → ((x5 = (-1) → post x5 u) ∧ (¬ x5 = (-1) → wp_X7_next x2 x5 u (fun r1 => ∀ y2 : Int32, y2 = x6 + 1 → wp_X7_partOnWay_L42 x2 x4 post n r1 y2 u)))))
def wp_X7_partOnWay (x1 : Int32) (x2 : Int32) (x3 : Int32) (x4 : Int32) (u : WU) (post : Int32 → WU → Prop) : Prop :=
  wp_X7_measure x2 x3 u (fun u3 => wp_X7_source x1 x2 u3 (fun r4 => ((r4 = (-1) → post (-1) u3) ∧ (¬ r4 = (-1) → ((x4 < 0 → post (-1) u3) ∧ (¬ x4 < 0 → vp_in r4 24 ∧ ((x4 ≤ (u3.1 19 r4.toNatClampNeg) → ∃ nn : Nat, wp_X7_partOnWay_L42 x2 x4 post nn r4 0 u3) ∧ (¬ x4 ≤ (u3.1 19 r4.toNatClampNeg) → post (-1) u3))))))))
abbrev rm_X7_partOnWay : Room := { frames := 5, cells := 0, slots := 0, locals := 112 }
def wp_X8_way (x1 : Int32) (x2 : Int32) (x3 : Int32) (x4 : Int32) (x5 : Int32) (u : WU) (post : Int32 → WU → Prop) : Prop :=
  wp_X8_within x1 4 (fun r1 => ((r1 = 0 → post (-1) u) ∧ (¬ r1 = 0 → wp_X8_isPair x2 x3 (fun r2 => ((r2 = 0 → post (-1) u) ∧ (¬ r2 = 0 → wp_X5_has x4 u (fun r3 => ((¬ r3 = 0 → wp_X8_pairOf x2 x3 (fun r4 => wp_X7_partOnWay x1 r4 x4 x5 u (fun r6 u5 => post r6 u5))) ∧ (r3 = 0 → post (-1) u)))))))))
abbrev rm_X8_way : Room := { frames := 6, cells := 0, slots := 0, locals := 138 }
def wp_X9_hasBrought (x1 : Int32) (x2 : Int32) (x3 : Int32) (x4 : Int32) (u : WU) (post : Int32 → Prop) : Prop :=
  wp_X9_brings x1 x2 u (fun r1 => wp_X9_bit x3 x4 (fun r2 => (((lg_cmp (r1 &&& r2) 0) = 0 → post 0) ∧ (¬ (lg_cmp (r1 &&& r2) 0) = 0 → post 1))))
abbrev rm_X9_hasBrought : Room := { frames := 1, cells := 0, slots := 0, locals := 22 }
def wp_X9_measures_J28 (x1 : Int32) (x2 : Int32) (x3 : Int32) (x4 : Int32) (z1 : Int32) (z2 : Int32) (u : WU) (post : WU → Prop) (K3 : Int32 → WU → Prop) : Prop :=
  vp_in z1 24 ∧ ∀ u19 : WU, u19 = uI u 20 (upd (u.1 20) z1.toNatClampNeg z2) → ∀ y20 : Int32, y20 = x4 + 1 → K3 y20 u19
def wp_X9_measures_L3 (x1 : Int32) (x2 : Int32) (x3 : Int32) (post : WU → Prop) (K35 : WU → Prop) : Nat → Int32 → WU → Prop
  | 0, _, _ => False
  | n + 1, x4, u =>
  ((24 ≤ x4 → K35 u) ∧ (¬ 24 ≤ x4 → ((¬ x4 = x3 → wp_X9_measures_J28 x1 x2 x3 x4 x4 100 u post (fun (y1 : Int32) (u2 : WU) => wp_X9_measures_L3 x1 x2 x3 post K35 n y1 u2)) ∧ (x4 = x3 → wp_X9_measures_J28 x1 x2 x3 x4 x4 0 u post (fun (y3 : Int32) (u4 : WU) => wp_X9_measures_L3 x1 x2 x3 post K35 n y3 u4)))))
def wp_X9_measures_J142 (x1 : Int32) (x2 : Int32) (x4 : Int32) (x5 : Int32) (u : WU) (post : WU → Prop) (K50 : Int32 → WU → Prop) : Prop :=
  ∀ y21 : Int32, y21 = x5 + 1 → K50 y21 u
def wp_X9_measures_L50 (x1 : Int32) (x2 : Int32) (x4 : Int32) (post : WU → Prop) (K148 : WU → Prop) : Nat → Int32 → WU → Prop
  | 0, _, _ => False
  | n + 1, x5, u =>
  (((u.1 23 0) ≤ x5 → K148 u) ∧ (¬ (u.1 23 0) ≤ x5 → vp_in x5 40 ∧ ((¬ (u.1 14 x5.toNatClampNeg) = 0 → wp_X9_measures_J142 x1 x2 x4 x5 u post (fun (y7 : Int32) (u8 : WU) => wp_X9_measures_L50 x1 x2 x4 post K148 n y7 u8)) ∧ ((u.1 14 x5.toNatClampNeg) = 0 → vp_in x5 40 ∧ vp_in (u.1 7 x5.toNatClampNeg) 4 ∧ wp_X9_bit x1 x2 (fun r9 => (((lg_cmp ((u.2 0 (u.1 7 x5.toNatClampNeg).toNatClampNeg) &&& r9) 0) = 0 → wp_X9_measures_J142 x1 x2 x4 x5 u post (fun (y10 : Int32) (u11 : WU) => wp_X9_measures_L50 x1 x2 x4 post K148 n y10 u11)) ∧ (¬ (lg_cmp ((u.2 0 (u.1 7 x5.toNatClampNeg).toNatClampNeg) &&& r9) 0) = 0 → vp_in x5 40 ∧ vp_in (u.1 6 x5.toNatClampNeg) 24 ∧ ((¬ (u.1 20 (u.1 6 x5.toNatClampNeg).toNatClampNeg) = (x4 - 1) → wp_X9_measures_J142 x1 x2 x4 x5 u post (fun (y12 : Int32) (u13 : WU) => wp_X9_measures_L50 x1 x2 x4 post K148 n y12 u13)) ∧ ((u.1 20 (u.1 6 x5.toNatClampNeg).toNatClampNeg) = (x4 - 1) → vp_in x5 40 ∧ vp_in (u.1 5 x5.toNatClampNeg) 24 ∧ (((u.1 20 (u.1 5 x5.toNatClampNeg).toNatClampNeg) ≤ x4 → wp_X9_measures_J142 x1 x2 x4 x5 u post (fun (y14 : Int32) (u15 : WU) => wp_X9_measures_L50 x1 x2 x4 post K148 n y14 u15)) ∧ (¬ (u.1 20 (u.1 5 x5.toNatClampNeg).toNatClampNeg) ≤ x4 → vp_in x5 40 ∧ vp_in (u.1 5 x5.toNatClampNeg) 24 ∧ ∀ u16 : WU, u16 = uI u 20 (upd (u.1 20) (u.1 5 x5.toNatClampNeg).toNatClampNeg x4) → wp_X9_measures_J142 x1 x2 x4 x5 u16 post (fun (y17 : Int32) (u18 : WU) => wp_X9_measures_L50 x1 x2 x4 post K148 n y17 u18))))))))))))
def wp_X9_measures_L38 (x1 : Int32) (x2 : Int32) (post : WU → Prop) : Nat → Int32 → WU → Prop
  | 0, _, _ => False
  | n + 1, x4, u =>
  (((u.1 21 0) < x4 → post u) ∧ (¬ (u.1 21 0) < x4 → ∃ nn : Nat, wp_X9_measures_L50 x1 x2 x4 post (fun (u5 : WU) => ∀ y6 : Int32, y6 = x4 + 1 → wp_X9_measures_L38 x1 x2 post n y6 u5) nn 0 u))
def wp_X9_measures (x1 : Int32) (x2 : Int32) (x3 : Int32) (u : WU) (post : WU → Prop) : Prop :=
  ∃ nn : Nat, wp_X9_measures_L3 x1 x2 x3 post (fun (u22 : WU) => ∃ nn : Nat, wp_X9_measures_L38 x1 x2 post nn 1 u22) nn 0 u
abbrev rm_X9_measures : Room := { frames := 1, cells := 0, slots := 0, locals := 21 }
def wp_X9_way_J118 (x1 : Int32) (x2 : Int32) (x3 : Int32) (x5 : Int32) (x6 : Int32) (x7 : Int32) (u : WU) (post : Int32 → WU → Prop) (K58 : Int32 → Int32 → WU → Prop) : Prop :=
  ∀ y43 : Int32, y43 = x7 + 1 → K58 x6 y43 u
def wp_X9_way_J114 (x1 : Int32) (x2 : Int32) (x3 : Int32) (x5 : Int32) (x7 : Int32) (u : WU) (post : Int32 → WU → Prop) (K58 : Int32 → Int32 → WU → Prop) : Prop :=
  wp_X9_way_J118 x1 x2 x3 x5 x7 x7 u post (fun (y40 : Int32) (y41 : Int32) (u42 : WU) => K58 y40 y41 u42)
def wp_X9_way_L58 (x1 : Int32) (x2 : Int32) (x3 : Int32) (x5 : Int32) (post : Int32 → WU → Prop) (K124 : Int32 → WU → Prop) : Nat → Int32 → Int32 → WU → Prop
  | 0, _, _, _ => False
  | n + 1, x6, x7, u =>
  (((u.1 21 0) ≤ x7 → K124 x6 u) ∧ (¬ (u.1 21 0) ≤ x7 → wp_X9_hasBrought x1 x7 x2 x3 u (fun r1 => ((r1 = 0 → wp_X9_way_J118 x1 x2 x3 x5 x6 x7 u post (fun (y2 : Int32) (y3 : Int32) (u4 : WU) => wp_X9_way_L58 x1 x2 x3 x5 post K124 n y2 y3 u4)) ∧ (¬ r1 = 0 → vp_in x7 24 ∧ ((100 ≤ (u.1 20 x7.toNatClampNeg) → wp_X9_way_J118 x1 x2 x3 x5 x6 x7 u post (fun (y5 : Int32) (y6 : Int32) (u7 : WU) => wp_X9_way_L58 x1 x2 x3 x5 post K124 n y5 y6 u7)) ∧ (¬ 100 ≤ (u.1 20 x7.toNatClampNeg) → ((x6 = (-1) → wp_X9_way_J114 x1 x2 x3 x5 x7 u post (fun (y8 : Int32) (y9 : Int32) (u10 : WU) => wp_X9_way_L58 x1 x2 x3 x5 post K124 n y8 y9 u10)) ∧ (¬ x6 = (-1) → vp_in x7 24 ∧ vp_in x6 24 ∧ (((u.1 20 x6.toNatClampNeg) ≤ (u.1 20 x7.toNatClampNeg) → wp_X9_way_J118 x1 x2 x3 x5 x6 x7 u post (fun (y11 : Int32) (y12 : Int32) (u13 : WU) => wp_X9_way_L58 x1 x2 x3 x5 post K124 n y11 y12 u13)) ∧ (¬ (u.1 20 x6.toNatClampNeg) ≤ (u.1 20 x7.toNatClampNeg) → wp_X9_way_J114 x1 x2 x3 x5 x7 u post (fun (y14 : Int32) (y15 : Int32) (u16 : WU) => wp_X9_way_L58 x1 x2 x3 x5 post K124 n y14 y15 u16))))))))))))
def wp_X9_way_J260 (x2 : Int32) (x3 : Int32) (x5 : Int32) (x6 : Int32) (x7 : Int32) (x8 : Int32) (x9 : Int32) (u : WU) (post : Int32 → WU → Prop) (K161 : Int32 → Int32 → WU → Prop) : Prop :=
  ∀ y44 : Int32, y44 = x9 + 1 → K161 x8 y44 u
def wp_X9_way_L161 (x2 : Int32) (x3 : Int32) (x5 : Int32) (x6 : Int32) (x7 : Int32) (post : Int32 → WU → Prop) (K266 : Int32 → WU → Prop) : Nat → Int32 → Int32 → WU → Prop
  | 0, _, _, _ => False
  | n + 1, x8, x9, u =>
  (((u.1 23 0) ≤ x9 → K266 x8 u) ∧ (¬ (u.1 23 0) ≤ x9 → vp_in x9 40 ∧ ((¬ (u.1 14 x9.toNatClampNeg) = 0 → wp_X9_way_J260 x2 x3 x5 x6 x7 x8 x9 u post (fun (y20 : Int32) (y21 : Int32) (u22 : WU) => wp_X9_way_L161 x2 x3 x5 x6 x7 post K266 n y20 y21 u22)) ∧ ((u.1 14 x9.toNatClampNeg) = 0 → vp_in x9 40 ∧ ((¬ (u.1 5 x9.toNatClampNeg) = x6 → wp_X9_way_J260 x2 x3 x5 x6 x7 x8 x9 u post (fun (y23 : Int32) (y24 : Int32) (u25 : WU) => wp_X9_way_L161 x2 x3 x5 x6 x7 post K266 n y23 y24 u25)) ∧ ((u.1 5 x9.toNatClampNeg) = x6 → vp_in x9 40 ∧ vp_in (u.1 7 x9.toNatClampNeg) 4 ∧ wp_X9_bit x2 x3 (fun r26 => (((lg_cmp ((u.2 0 (u.1 7 x9.toNatClampNeg).toNatClampNeg) &&& r26) 0) = 0 → wp_X9_way_J260 x2 x3 x5 x6 x7 x8 x9 u post (fun (y27 : Int32) (y28 : Int32) (u29 : WU) => wp_X9_way_L161 x2 x3 x5 x6 x7 post K266 n y27 y28 u29)) ∧ (¬ (lg_cmp ((u.2 0 (u.1 7 x9.toNatClampNeg).toNatClampNeg) &&& r26) 0) = 0 → vp_in x9 40 ∧ vp_in (u.1 6 x9.toNatClampNeg) 24 ∧ vp_in x6 24 ∧ ((¬ (u.1 20 (u.1 6 x9.toNatClampNeg).toNatClampNeg) = ((u.1 20 x6.toNatClampNeg) - 1) → wp_X9_way_J260 x2 x3 x5 x6 x7 x8 x9 u post (fun (y30 : Int32) (y31 : Int32) (u32 : WU) => wp_X9_way_L161 x2 x3 x5 x6 x7 post K266 n y30 y31 u32)) ∧ ((u.1 20 (u.1 6 x9.toNatClampNeg).toNatClampNeg) = ((u.1 20 x6.toNatClampNeg) - 1) → vp_in x9 40 ∧ ((x8 ≤ (u.1 6 x9.toNatClampNeg) → wp_X9_way_J260 x2 x3 x5 x6 x7 x8 x9 u post (fun (y33 : Int32) (y34 : Int32) (u35 : WU) => wp_X9_way_L161 x2 x3 x5 x6 x7 post K266 n y33 y34 u35)) ∧ (¬ x8 ≤ (u.1 6 x9.toNatClampNeg) → vp_in x9 40 ∧ ∀ y36 : Int32, y36 = u.1 6 x9.toNatClampNeg → wp_X9_way_J260 x2 x3 x5 x6 x7 y36 x9 u post (fun (y37 : Int32) (y38 : Int32) (u39 : WU) => wp_X9_way_L161 x2 x3 x5 x6 x7 post K266 n y37 y38 u39))))))))))))))
def wp_X9_way_L147 (x2 : Int32) (x3 : Int32) (x5 : Int32) (post : Int32 → WU → Prop) : Nat → Int32 → Int32 → WU → Prop
  | 0, _, _, _ => False
  | n + 1, x6, x7, u =>
  ((x5 ≤ x7 → post x6 u) ∧ (¬ x5 ≤ x7 → ∃ nn : Nat, wp_X9_way_L161 x2 x3 x5 x6 x7 post (fun (y17 : Int32) (u18 : WU) => ∀ y19 : Int32, y19 = x7 + 1 → wp_X9_way_L147 x2 x3 x5 post n y17 y19 u18) nn 24 0 u))
def wp_X9_way (x1 : Int32) (x2 : Int32) (x3 : Int32) (x4 : Int32) (x5 : Int32) (u : WU) (post : Int32 → WU → Prop) : Prop :=
  wp_X9_isShipping x1 (fun r45 => ((r45 = 0 → post (-1) u) ∧ (¬ r45 = 0 → wp_X9_isLicence x2 (fun r46 => ((r46 = 0 → post (-1) u) ∧ (¬ r46 = 0 → wp_X9_lies x3 0 7 (fun r47 => ((r47 = 0 → post (-1) u) ∧ (¬ r47 = 0 → wp_X9_isPart x4 u (fun r48 => ((r48 = 0 → post (-1) u) ∧ (¬ r48 = 0 → ((0 ≤ x5 → wp_X9_asItIs u (fun u49 => wp_X9_measures x2 x3 x4 u49 (fun u50 => ∃ nn : Nat, wp_X9_way_L58 x1 x2 x3 x5 post (fun (y51 : Int32) (u52 : WU) => ((y51 = (-1) → post (-1) u52) ∧ (¬ y51 = (-1) → vp_in y51 24 ∧ ((x5 ≤ (u52.1 20 y51.toNatClampNeg) → ∃ nn : Nat, wp_X9_way_L147 x2 x3 x5 post nn y51 0 u52) ∧ (¬ x5 ≤ (u52.1 20 y51.toNatClampNeg) → post (-1) u52))))) nn (-1) 0 u50))) ∧ (¬ 0 ≤ x5 → post (-1) u))))))))))))))
abbrev rm_X9_way : Room := { frames := 2, cells := 0, slots := 0, locals := 46 }
def wp_X7_noticed_J75 (x1 : Int32) (x2 : Int32) (x3 : Int32) (x4 : Int32) (x5 : Int32) (u : WU) (post : Int32 → WU → Prop) (K33 : Int32 → Int32 → WU → Prop) : Prop :=
  ∀ y17 : Int32, y17 = x5 + 1 → K33 x2 y17 u
def wp_X7_noticed_L33 (x1 : Int32) (x3 : Int32) (x4 : Int32) (post : Int32 → WU → Prop) (K81 : Int32 → WU → Prop) : Nat → Int32 → Int32 → WU → Prop
  | 0, _, _, _ => False
  | n + 1, x2, x5, u =>
  (((u.1 20 0) ≤ x5 → K81 x2 u) ∧ (¬ (u.1 20 0) ≤ x5 → vp_in x5 24 ∧ (((u.1 19 x5.toNatClampNeg) = (-1) → wp_X7_noticed_J75 x1 x2 x3 x4 x5 u post (fun (y6 : Int32) (y7 : Int32) (u8 : WU) => wp_X7_noticed_L33 x1 x3 x4 post K81 n y6 y7 u8)) ∧ (¬ (u.1 19 x5.toNatClampNeg) = (-1) → wp_X7_brings x1 x5 x4 u (fun r9 => ((r9 = 0 → wp_X7_noticed_J75 x1 x2 x3 x4 x5 u post (fun (y10 : Int32) (y11 : Int32) (u12 : WU) => wp_X7_noticed_L33 x1 x3 x4 post K81 n y10 y11 u12)) ∧ (¬ r9 = 0 → ∀ y13 : Int32, y13 = x2 ||| (1 <<< (x5 &&& 31)) → wp_X7_noticed_J75 x1 y13 x3 x4 x5 u post (fun (y14 : Int32) (y15 : Int32) (u16 : WU) => wp_X7_noticed_L33 x1 x3 x4 post K81 n y14 y15 u16))))))))
def wp_X7_noticed_L4 (x1 : Int32) (post : Int32 → WU → Prop) : Nat → Int32 → Int32 → WU → Prop
  | 0, _, _, _ => False
  | n + 1, x2, x3, u =>
  ((8 ≤ x3 → post x2 u) ∧ (¬ 8 ≤ x3 → wp_X8_pairOf x3 0 (fun r1 => wp_X7_measure r1 (u.1 21 0) u (fun u2 => ∃ nn : Nat, wp_X7_noticed_L33 x1 x3 r1 post (fun (y3 : Int32) (u4 : WU) => ∀ y5 : Int32, y5 = x3 + 1 → wp_X7_noticed_L4 x1 post n y3 y5 u4) nn x2 0 u2))))
def wp_X7_noticed (x1 : Int32) (u : WU) (post : Int32 → WU → Prop) : Prop :=
  ∃ nn : Nat, wp_X7_noticed_L4 x1 post nn 0 0 u
abbrev rm_X7_noticed : Room := { frames := 4, cells := 0, slots := 0, locals := 94 }
def wp_X8_memberAt_J29 (x0 : Int32) (x1 : Int32) (x2 : Int32) (x3 : Int32) (post : Int32 → Prop) (K4 : Int32 → Int32 → Prop) : Prop :=
  ∀ y7 : Int32, y7 = x3 + 1 → K4 x2 y7
def wp_X8_memberAt_L4 (x0 : Int32) (x1 : Int32) (post : Int32 → Prop) : Nat → Int32 → Int32 → Prop
  | 0, _, _ => False
  | n + 1, x2, x3 =>
  ((24 ≤ x3 → post (-1)) ∧ (¬ 24 ≤ x3 → wp_X8_holds x0.toInt64 x3 (fun r1 => ((r1 = 0 → wp_X8_memberAt_J29 x0 x1 x2 x3 post (fun (y2 : Int32) (y3 : Int32) => wp_X8_memberAt_L4 x0 x1 post n y2 y3)) ∧ (¬ r1 = 0 → ((¬ x2 = x1 → ∀ y4 : Int32, y4 = x2 + 1 → wp_X8_memberAt_J29 x0 x1 y4 x3 post (fun (y5 : Int32) (y6 : Int32) => wp_X8_memberAt_L4 x0 x1 post n y5 y6)) ∧ (x2 = x1 → post x3)))))))
def wp_X8_memberAt (x0 : Int32) (x1 : Int32) (post : Int32 → Prop) : Prop :=
  ∃ nn : Nat, wp_X8_memberAt_L4 x0 x1 post nn 0 0
abbrev rm_X8_memberAt : Room := { frames := 1, cells := 0, slots := 0, locals := 22 }
def wp_X8_notice (x1 : Int32) (x2 : Int32) (u : WU) (post : Int32 → WU → Prop) : Prop :=
  wp_X8_within x1 4 (fun r1 => ((r1 = 0 → post (-1) u) ∧ (¬ r1 = 0 → ((¬ (u.1 20 0) = 0 → wp_X7_noticed x1 u (fun r3 u2 => wp_X8_memberAt r3 x2 (fun r4 => post r4 u2))) ∧ ((u.1 20 0) = 0 → post (-1) u)))))
abbrev rm_X8_notice : Room := { frames := 5, cells := 0, slots := 0, locals := 119 }
def wp_X9_notice_J94 (x1 : Int32) (x2 : Int32) (x3 : Int32) (x4 : Int32) (u : WU) (post : Int32 → WU → Prop) (K22 : Int32 → Int32 → WU → Prop) : Prop :=
  ∀ y13 : Int32, y13 = x4 + 1 → K22 x3 y13 u
def wp_X9_notice_L22 (x1 : Int32) (x2 : Int32) (post : Int32 → WU → Prop) : Nat → Int32 → Int32 → WU → Prop
  | 0, _, _, _ => False
  | n + 1, x3, x4, u =>
  (((u.1 21 0) ≤ x4 → post (-1) u) ∧ (¬ (u.1 21 0) ≤ x4 → vp_in x4 24 ∧ wp_X9_hasBrought x1 x4 (u.1 15 x4.toNatClampNeg) 0 u (fun r1 => ((¬ r1 = 0 → vp_in x4 24 ∧ wp_X9_measures (u.1 15 x4.toNatClampNeg) 0 (u.1 22 0) u (fun u2 => vp_in x4 24 ∧ ((¬ (u2.1 20 x4.toNatClampNeg) = 100 → ((¬ x3 = x2 → ∀ y3 : Int32, y3 = x3 + 1 → wp_X9_notice_J94 x1 x2 y3 x4 u2 post (fun (y4 : Int32) (y5 : Int32) (u6 : WU) => wp_X9_notice_L22 x1 x2 post n y4 y5 u6)) ∧ (x3 = x2 → post x4 u2))) ∧ ((u2.1 20 x4.toNatClampNeg) = 100 → wp_X9_notice_J94 x1 x2 x3 x4 u2 post (fun (y7 : Int32) (y8 : Int32) (u9 : WU) => wp_X9_notice_L22 x1 x2 post n y7 y8 u9))))) ∧ (r1 = 0 → wp_X9_notice_J94 x1 x2 x3 x4 u post (fun (y10 : Int32) (y11 : Int32) (u12 : WU) => wp_X9_notice_L22 x1 x2 post n y10 y11 u12))))))
def wp_X9_notice (x1 : Int32) (x2 : Int32) (u : WU) (post : Int32 → WU → Prop) : Prop :=
  wp_X9_isShipping x1 (fun r14 => ((r14 = 0 → post (-1) u) ∧ (¬ r14 = 0 → ((0 ≤ x2 → wp_X9_asItIs u (fun u15 => ∃ nn : Nat, wp_X9_notice_L22 x1 x2 post nn 0 0 u15)) ∧ (¬ 0 ≤ x2 → post (-1) u)))))
abbrev rm_X9_notice : Room := { frames := 2, cells := 0, slots := 0, locals := 46 }
def wp_X2_unlike_J90 (x3 : Int32) (x4 : Int32) (u : WU) (post : Int32 → WU → Prop) (K58 : Int32 → Int32 → WU → Prop) : Prop :=
  ∀ y9 : Int32, y9 = x4 + 1 → K58 x3 y9 u
def wp_X2_unlike_L58  (post : Int32 → WU → Prop) : Nat → Int32 → Int32 → WU → Prop
  | 0, _, _, _ => False
  | n + 1, x3, x4, u =>
  ((24 ≤ x4 → wp_X2_ofProduct (u.2 6 0) u (fun r1 => post (x3 &&& r1) u)) ∧ (¬ 24 ≤ x4 → vp_in x4 24 ∧ vp_in x4 24 ∧ (((lg_cmp (u.2 4 x4.toNatClampNeg) (u.2 5 x4.toNatClampNeg)) = 0 → wp_X2_unlike_J90 x3 x4 u post (fun (y2 : Int32) (y3 : Int32) (u4 : WU) => wp_X2_unlike_L58 post n y2 y3 u4)) ∧ (¬ (lg_cmp (u.2 4 x4.toNatClampNeg) (u.2 5 x4.toNatClampNeg)) = 0 → ∀ y5 : Int32, y5 = x3 ||| (1 <<< (x4 &&& 31)) → wp_X2_unlike_J90 y5 x4 u post (fun (y6 : Int32) (y7 : Int32) (u8 : WU) => wp_X2_unlike_L58 post n y6 y7 u8)))))
def wp_X2_unlike (x1 : Int32) (x2 : Int32) (u : WU) (post : Int32 → WU → Prop) : Prop :=
  wp_X2_run_c14 x1 (u.2 6 0) u (fun u10 => ∀ u11 : WU, u11 = uJ u10 5 (va_cpy (u10.2 4) (u10.2 5) (0 : Int32).toNatClampNeg (0 : Int32).toNatClampNeg (24 : Int32).toNatClampNeg) → wp_X2_run_c14 x2 (u11.2 6 0) u11 (fun u12 => ∃ nn : Nat, wp_X2_unlike_L58 post nn 0 0 u12))
abbrev rm_X2_unlike : Room := { frames := 4, cells := 0, slots := 0, locals := 90 }
def wp_X8_differ (x1 : Int32) (x2 : Int32) (x3 : Int32) (u : WU) (post : Int32 → WU → Prop) : Prop :=
  wp_X8_within x1 4 (fun r1 => ((r1 = 0 → post (-1) u) ∧ (¬ r1 = 0 → wp_X8_within x2 4 (fun r2 => ((¬ r2 = 0 → wp_X2_unlike x1 x2 u (fun r4 u3 => wp_X8_memberAt r4 x3 (fun r5 => post r5 u3))) ∧ (r2 = 0 → post (-1) u))))))
abbrev rm_X8_differ : Room := { frames := 5, cells := 0, slots := 0, locals := 114 }
def wp_X9_differ_L28 (x1 : Int32) (x3 : Int32) (post : Int32 → WU → Prop) (K57 : WU → Prop) : Nat → Int32 → WU → Prop
  | 0, _, _ => False
  | n + 1, x4, u =>
  (((u.1 21 0) ≤ x4 → K57 u) ∧ (¬ (u.1 21 0) ≤ x4 → vp_in x4 24 ∧ vp_in x4 24 ∧ ∀ u1 : WU, u1 = uJ u 3 (vp_updL (u.2 3) x4.toNatClampNeg (u.2 2 x4.toNatClampNeg)) → ∀ y2 : Int32, y2 = x4 + 1 → wp_X9_differ_L28 x1 x3 post K57 n y2 u1))
def wp_X9_differ_J120 (x3 : Int32) (x4 : Int32) (x5 : Int32) (u : WU) (post : Int32 → WU → Prop) (K68 : Int32 → Int32 → WU → Prop) : Prop :=
  ∀ y13 : Int32, y13 = x5 + 1 → K68 x4 y13 u
def wp_X9_differ_L68 (x3 : Int32) (post : Int32 → WU → Prop) : Nat → Int32 → Int32 → WU → Prop
  | 0, _, _, _ => False
  | n + 1, x4, x5, u =>
  (((u.1 21 0) ≤ x5 → post (-1) u) ∧ (¬ (u.1 21 0) ≤ x5 → vp_in x5 24 ∧ (((u.1 13 x5.toNatClampNeg) = 0 → wp_X9_differ_J120 x3 x4 x5 u post (fun (y3 : Int32) (y4 : Int32) (u5 : WU) => wp_X9_differ_L68 x3 post n y3 y4 u5)) ∧ (¬ (u.1 13 x5.toNatClampNeg) = 0 → vp_in x5 24 ∧ vp_in x5 24 ∧ ((¬ (lg_cmp (u.2 2 x5.toNatClampNeg) (u.2 3 x5.toNatClampNeg)) = 0 → ((¬ x4 = x3 → ∀ y6 : Int32, y6 = x4 + 1 → wp_X9_differ_J120 x3 y6 x5 u post (fun (y7 : Int32) (y8 : Int32) (u9 : WU) => wp_X9_differ_L68 x3 post n y7 y8 u9)) ∧ (x4 = x3 → post x5 u))) ∧ ((lg_cmp (u.2 2 x5.toNatClampNeg) (u.2 3 x5.toNatClampNeg)) = 0 → wp_X9_differ_J120 x3 x4 x5 u post (fun (y10 : Int32) (y11 : Int32) (u12 : WU) => wp_X9_differ_L68 x3 post n y10 y11 u12)))))))
def wp_X9_differ (x1 : Int32) (x2 : Int32) (x3 : Int32) (u : WU) (post : Int32 → WU → Prop) : Prop :=
  wp_X9_isShipping x1 (fun r14 => ((r14 = 0 → post (-1) u) ∧ (¬ r14 = 0 → wp_X9_isShipping x2 (fun r15 => ((r15 = 0 → post (-1) u) ∧ (¬ r15 = 0 → ((0 ≤ x3 → wp_X9_works x2 u (fun u16 => ∃ nn : Nat, wp_X9_differ_L28 x1 x3 post (fun (u17 : WU) => wp_X9_works x1 u17 (fun u18 => ∃ nn : Nat, wp_X9_differ_L68 x3 post nn 0 0 u18)) nn 0 u16)) ∧ (¬ 0 ≤ x3 → post (-1) u))))))))
abbrev rm_X9_differ : Room := { frames := 3, cells := 0, slots := 0, locals := 66 }
def wp_X3_countInto (x1 : Int32) (u : WU) (post : Int32 → Prop) : Prop :=
  vp_in x1 24 ∧ vp_in x1 24 ∧ post ((u.1 9 x1.toNatClampNeg) - (u.1 8 x1.toNatClampNeg))
abbrev rm_X3_countInto : Room := { frames := 0, cells := 0, slots := 0, locals := 0 }
def wp_X3_countOutOf_J36 (x1 : Int32) (x2 : Int32) (x3 : Int32) (u : WU) (post : Int32 → Prop) (K4 : Int32 → Int32 → Prop) : Prop :=
  ∀ y9 : Int32, y9 = x3 + 1 → K4 x2 y9
def wp_X3_countOutOf_L4 (x1 : Int32) (u : WU) (post : Int32 → Prop) : Nat → Int32 → Int32 → Prop
  | 0, _, _ => False
  | n + 1, x2, x3 =>
  (((u.1 22 0) ≤ x3 → post x2) ∧ (¬ (u.1 22 0) ≤ x3 → vp_in x3 40 ∧ ((¬ (u.1 3 x3.toNatClampNeg) = x1 → wp_X3_countOutOf_J36 x1 x2 x3 u post (fun (y1 : Int32) (y2 : Int32) => wp_X3_countOutOf_L4 x1 u post n y1 y2)) ∧ ((u.1 3 x3.toNatClampNeg) = x1 → wp_X8_holds (u.2 6 0) x3 (fun r3 => ((r3 = 0 → wp_X3_countOutOf_J36 x1 x2 x3 u post (fun (y4 : Int32) (y5 : Int32) => wp_X3_countOutOf_L4 x1 u post n y4 y5)) ∧ (¬ r3 = 0 → ∀ y6 : Int32, y6 = x2 + 1 → wp_X3_countOutOf_J36 x1 y6 x3 u post (fun (y7 : Int32) (y8 : Int32) => wp_X3_countOutOf_L4 x1 u post n y7 y8))))))))
def wp_X3_countOutOf (x1 : Int32) (u : WU) (post : Int32 → Prop) : Prop :=
  ∃ nn : Nat, wp_X3_countOutOf_L4 x1 u post nn 0 0
abbrev rm_X3_countOutOf : Room := { frames := 1, cells := 0, slots := 0, locals := 22 }
def wp_X8_choiceOrNone (x1 : Int32) (x2 : Int32) (u : WU) (post : Int32 → Prop) : Prop :=
  ((x2 < 5 → post (-1)) ∧ (¬ x2 < 5 → vp_in x1 24 ∧ (((x2 - 5) < (u.1 1 x1.toNatClampNeg) → wp_X5_choiceOf x1 (x2 - 5) u (fun r1 => post r1)) ∧ (¬ (x2 - 5) < (u.1 1 x1.toNatClampNeg) → post (-1)))))
abbrev rm_X8_choiceOrNone : Room := { frames := 1, cells := 0, slots := 0, locals := 22 }
def wp_X8_look (x1 : Int32) (x2 : Int32) (u : WU) (post : Int32 → Prop) : Prop :=
  wp_X5_has x1 u (fun r1 => ((¬ r1 = 0 → ((x2 = 0 → vp_in x1 24 ∧ post (u.1 2 x1.toNatClampNeg)) ∧ (x2 = 1 → vp_in x1 24 ∧ post (u.1 1 x1.toNatClampNeg)) ∧ (x2 = 2 → wp_X2_ofProduct (u.2 6 0) u (fun r2 => wp_X8_holds r2.toInt64 x1 (fun r3 => ((r3 = 0 → post 0) ∧ (¬ r3 = 0 → post 1))))) ∧ (x2 = 3 → wp_X3_countInto x1 u (fun r4 => post r4)) ∧ (x2 = 4 → wp_X3_countOutOf x1 u (fun r5 => post r5)) ∧ (¬ x2 = 0 → ¬ x2 = 1 → ¬ x2 = 2 → ¬ x2 = 3 → ¬ x2 = 4 → wp_X8_choiceOrNone x1 x2 u (fun r6 => post r6)))) ∧ (r1 = 0 → post (-1))))
abbrev rm_X8_look : Room := { frames := 3, cells := 0, slots := 0, locals := 72 }
def wp_X9_look_J169 (x1 : Int32) (x4 : Int32) (z0 : Int32) (z1 : Int32) (u : WU) (post : Int32 → WU → Prop) (K133 : Int32 → Int32 → WU → Prop) : Prop :=
  ∀ y22 : Int32, y22 = z0 + z1 → ∀ y23 : Int32, y23 = x4 + 1 → K133 y22 y23 u
def wp_X9_look_J168 (x1 : Int32) (x4 : Int32) (z0 : Int32) (u : WU) (post : Int32 → WU → Prop) (K133 : Int32 → Int32 → WU → Prop) : Prop :=
  wp_X9_look_J169 x1 x4 z0 0 u post (fun (y19 : Int32) (y20 : Int32) (u21 : WU) => K133 y19 y20 u21)
def wp_X9_look_L133 (x1 : Int32) (post : Int32 → WU → Prop) : Nat → Int32 → Int32 → WU → Prop
  | 0, _, _, _ => False
  | n + 1, x3, x4, u =>
  (((u.1 23 0) ≤ x4 → post x3 u) ∧ (¬ (u.1 23 0) ≤ x4 → vp_in x4 40 ∧ ((¬ (u.1 8 x4.toNatClampNeg) = 0 → wp_X9_look_J168 x1 x4 x3 u post (fun (y1 : Int32) (y2 : Int32) (u3 : WU) => wp_X9_look_L133 x1 post n y1 y2 u3)) ∧ ((u.1 8 x4.toNatClampNeg) = 0 → vp_in x4 40 ∧ ((¬ (u.1 6 x4.toNatClampNeg) = x1 → wp_X9_look_J168 x1 x4 x3 u post (fun (y4 : Int32) (y5 : Int32) (u6 : WU) => wp_X9_look_L133 x1 post n y4 y5 u6)) ∧ ((u.1 6 x4.toNatClampNeg) = x1 → wp_X9_look_J169 x1 x4 x3 1 u post (fun (y7 : Int32) (y8 : Int32) (u9 : WU) => wp_X9_look_L133 x1 post n y7 y8 u9)))))))
def wp_X9_look_J218 (x1 : Int32) (x4 : Int32) (z0 : Int32) (z1 : Int32) (u : WU) (post : Int32 → WU → Prop) (K182 : Int32 → Int32 → WU → Prop) : Prop :=
  ∀ y27 : Int32, y27 = z0 + z1 → ∀ y28 : Int32, y28 = x4 + 1 → K182 y27 y28 u
def wp_X9_look_J217 (x1 : Int32) (x4 : Int32) (z0 : Int32) (u : WU) (post : Int32 → WU → Prop) (K182 : Int32 → Int32 → WU → Prop) : Prop :=
  wp_X9_look_J218 x1 x4 z0 0 u post (fun (y24 : Int32) (y25 : Int32) (u26 : WU) => K182 y24 y25 u26)
def wp_X9_look_L182 (x1 : Int32) (post : Int32 → WU → Prop) : Nat → Int32 → Int32 → WU → Prop
  | 0, _, _, _ => False
  | n + 1, x3, x4, u =>
  (((u.1 23 0) ≤ x4 → post x3 u) ∧ (¬ (u.1 23 0) ≤ x4 → vp_in x4 40 ∧ ((¬ (u.1 8 x4.toNatClampNeg) = 0 → wp_X9_look_J217 x1 x4 x3 u post (fun (y10 : Int32) (y11 : Int32) (u12 : WU) => wp_X9_look_L182 x1 post n y10 y11 u12)) ∧ ((u.1 8 x4.toNatClampNeg) = 0 → vp_in x4 40 ∧ ((¬ (u.1 5 x4.toNatClampNeg) = x1 → wp_X9_look_J217 x1 x4 x3 u post (fun (y13 : Int32) (y14 : Int32) (u15 : WU) => wp_X9_look_L182 x1 post n y13 y14 u15)) ∧ ((u.1 5 x4.toNatClampNeg) = x1 → wp_X9_look_J218 x1 x4 x3 1 u post (fun (y16 : Int32) (y17 : Int32) (u18 : WU) => wp_X9_look_L182 x1 post n y16 y17 u18)))))))
def wp_X9_look (x1 : Int32) (x2 : Int32) (u : WU) (post : Int32 → WU → Prop) : Prop :=
  wp_X9_isPart x1 u (fun r29 => ((¬ r29 = 0 → vp_in x1 24 ∧ wp_X9_lies (x2 - 5) 0 ((u.1 3 x1.toNatClampNeg) - 1) (fun r30 => ((r30 = 0 → ((x2 = 0 → vp_in x1 24 ∧ vp_in ((3 * x1) + (u.1 4 x1.toNatClampNeg)) 72 ∧ post (u.1 2 ((3 * x1) + (u.1 4 x1.toNatClampNeg)).toNatClampNeg) u) ∧ (x2 = 1 → vp_in x1 24 ∧ post (u.1 3 x1.toNatClampNeg) u) ∧ (x2 = 2 → wp_X9_asItIs u (fun u31 => wp_X9_reaches (u31.1 22 0) u31 (fun u32 => vp_in x1 24 ∧ (((u32.1 13 x1.toNatClampNeg) = 0 → post 0 u32) ∧ (¬ (u32.1 13 x1.toNatClampNeg) = 0 → post 1 u32))))) ∧ (x2 = 3 → ∃ nn : Nat, wp_X9_look_L133 x1 post nn 0 0 u) ∧ (x2 = 4 → ∃ nn : Nat, wp_X9_look_L182 x1 post nn 0 0 u) ∧ (¬ x2 = 0 → ¬ x2 = 1 → ¬ x2 = 2 → ¬ x2 = 3 → ¬ x2 = 4 → post (-1) u))) ∧ (¬ r30 = 0 → vp_in (((3 * x1) + x2) - 5) 72 ∧ post (u.1 2 (((3 * x1) + x2) - 5).toNatClampNeg) u)))) ∧ (r29 = 0 → post (-1) u)))
abbrev rm_X9_look : Room := { frames := 2, cells := 0, slots := 0, locals := 43 }
def wp_X8_count (x1 : Int32) (u : WU) (post : Int32 → Prop) : Prop :=
  ((x1 = 0 → post (u.1 20 0)) ∧ (x1 = 1 → post (u.1 22 0)) ∧ (x1 = 2 → wp_J13_bitCount_95d88 (u.2 6 0) (fun r1 => post r1)) ∧ (x1 = 3 → wp_X2_ofProduct (u.2 6 0) u (fun r2 => wp_J6_bitCount_0f7a4 r2 (fun r3 => post r3))) ∧ (x1 = 4 → post (u.1 23 0)) ∧ (x1 = 5 → post (u.1 21 0)) ∧ (x1 = 6 → wp_X2_wayCount u (fun r4 => post r4)) ∧ (¬ x1 = 0 → ¬ x1 = 1 → ¬ x1 = 2 → ¬ x1 = 3 → ¬ x1 = 4 → ¬ x1 = 5 → ¬ x1 = 6 → post (-1)))
abbrev rm_X8_count : Room := { frames := 4, cells := 0, slots := 0, locals := 95 }
def wp_X9_count_J79 (x3 : Int32) (z0 : Int32) (z1 : Int32) (u : WU) (post : Int32 → WU → Prop) (K56 : Int32 → Int32 → WU → Prop) : Prop :=
  ∀ y13 : Int32, y13 = z0 + z1 → ∀ y14 : Int32, y14 = x3 + 1 → K56 y13 y14 u
def wp_X9_count_L56  (post : Int32 → WU → Prop) : Nat → Int32 → Int32 → WU → Prop
  | 0, _, _, _ => False
  | n + 1, x2, x3, u =>
  (((u.1 23 0) ≤ x3 → post x2 u) ∧ (¬ (u.1 23 0) ≤ x3 → vp_in x3 40 ∧ (((u.1 8 x3.toNatClampNeg) = 0 → wp_X9_count_J79 x3 x2 1 u post (fun (y1 : Int32) (y2 : Int32) (u3 : WU) => wp_X9_count_L56 post n y1 y2 u3)) ∧ (¬ (u.1 8 x3.toNatClampNeg) = 0 → wp_X9_count_J79 x3 x2 0 u post (fun (y4 : Int32) (y5 : Int32) (u6 : WU) => wp_X9_count_L56 post n y4 y5 u6)))))
def wp_X9_count_J126 (x3 : Int32) (z0 : Int32) (z1 : Int32) (u : WU) (post : Int32 → WU → Prop) (K103 : Int32 → Int32 → WU → Prop) : Prop :=
  ∀ y15 : Int32, y15 = z0 + z1 → ∀ y16 : Int32, y16 = x3 + 1 → K103 y15 y16 u
def wp_X9_count_L103  (post : Int32 → WU → Prop) : Nat → Int32 → Int32 → WU → Prop
  | 0, _, _, _ => False
  | n + 1, x2, x3, u =>
  (((u.1 21 0) ≤ x3 → post x2 u) ∧ (¬ (u.1 21 0) ≤ x3 → vp_in x3 24 ∧ (((u.1 13 x3.toNatClampNeg) = 0 → wp_X9_count_J126 x3 x2 0 u post (fun (y7 : Int32) (y8 : Int32) (u9 : WU) => wp_X9_count_L103 post n y7 y8 u9)) ∧ (¬ (u.1 13 x3.toNatClampNeg) = 0 → wp_X9_count_J126 x3 x2 1 u post (fun (y10 : Int32) (y11 : Int32) (u12 : WU) => wp_X9_count_L103 post n y10 y11 u12)))))
def wp_X9_count (x1 : Int32) (u : WU) (post : Int32 → WU → Prop) : Prop :=
  ((x1 = 0 → post (u.1 21 0) u) ∧ (x1 = 1 → post (u.1 23 0) u) ∧ (x1 = 2 → ∃ nn : Nat, wp_X9_count_L56 post nn 0 0 u) ∧ (x1 = 3 → wp_X9_asItIs u (fun u17 => wp_X9_reaches (u17.1 22 0) u17 (fun u18 => ∃ nn : Nat, wp_X9_count_L103 post nn 0 0 u18))) ∧ (x1 = 4 → post (u.1 24 0) u) ∧ (x1 = 5 → post (u.1 22 0) u) ∧ (x1 = 6 → wp_X9_ways u (fun r20 u19 => post r20 u19)) ∧ (¬ x1 = 0 → ¬ x1 = 1 → ¬ x1 = 2 → ¬ x1 = 3 → ¬ x1 = 4 → ¬ x1 = 5 → ¬ x1 = 6 → post (-1) u))
abbrev rm_X9_count : Room := { frames := 2, cells := 0, slots := 0, locals := 46 }
