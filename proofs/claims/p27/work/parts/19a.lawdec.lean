theorem mb_X11_init : MLb yX11_init cX11_init 1 none 0 := ⟨mT1 27 (by decide +kernel) (by decide +kernel), (mT1 1 (by decide +kernel) (by decide +kernel)), by decide +kernel⟩
theorem ml_RL_9 : MLI RL 9 yX11_init cX11_init 1 0 := ⟨mb_X11_init, (mT1 25 (by decide +kernel) (by decide +kernel)), (mT1 26 (by decide +kernel) (by decide +kernel)), rfl⟩
theorem mb_X12_init : MLb yX12_init cX12_init 2 none 0 := ⟨mT6 44 (by decide +kernel) (by decide +kernel), (mT1 14 (by decide +kernel) (by decide +kernel)), by decide +kernel⟩
theorem ml_RL_12 : MLI RL 12 yX12_init cX12_init 2 0 := ⟨mb_X12_init, (mT6 42 (by decide +kernel) (by decide +kernel)), (mT6 43 (by decide +kernel) (by decide +kernel)), rfl⟩
theorem no_RL_10 : NO RL 10 11 [.inr none, .inr none, .inr none, .inr none, .inr none, .inr none, .inr none, .inr none, .inl 0, .inr none, .inl 0, .inl 0, .inl 0, .inl 0, .inl 0, .inl 0, .inl 0, .inl 0, .inl 0, .inl 0, .inr none, .inr none, .inr none, .inr none, .inr none, .inr none, .inr none, .inr none, .inr none, .inr none, .inr none, .inr none, .inr none, .inr none, .inr none, .inr none, .inr none, .inl 0, .inl 0, .inl 0, .inl 0, .inl 0, .inl 0, .inl 0, .inl 0, .inl 0, .inl 0, .inr none, .inr none, .inr none, .inr none, .inr none, .inl 0] := ⟨_, _, _, tyX12, rfl, rfl, inX12, tyX12_ok, (mT6 40 (by decide +kernel) (by decide +kernel)), (mT6 41 (by decide +kernel) (by decide +kernel)), (mT1 14 (by decide +kernel) (by decide +kernel)), fun ad j hj => by
  have h : ∀ j, j < 53 → defaultValue (tyX12 j) = vp_V ([.null, .null, .null, .null, .null, .null, .null, .null, .int 0, .null, .int 0, .int 0, .int 0, .int 0, .int 0, .int 0, .int 0, .int 0, .int 0, .int 0, .null, .null, .null, .null, .null, .null, .null, .null, .null, .null, .null, .null, .null, .null, .null, .null, .null, .int 0, .int 0, .int 0, .int 0, .int 0, .int 0, .int 0, .int 0, .int 0, .int 0, .null, .null, .null, .null, .null, .int 0]) j := by decide +kernel
  exact h j hj⟩
theorem no_RL_7 : NO RL 7 10 [.inr none, .inr none, .inr none, .inr none, .inr none, .inr none, .inr none, .inr none, .inr none, .inr none, .inr none, .inr none, .inr none, .inr none, .inl 0] := ⟨_, _, _, tyX11, rfl, rfl, inX11, tyX11_ok, (mT1 23 (by decide +kernel) (by decide +kernel)), (mT1 24 (by decide +kernel) (by decide +kernel)), (mT1 1 (by decide +kernel) (by decide +kernel)), fun ad j hj => by
  have h : ∀ j, j < 15 → defaultValue (tyX11 j) = vp_V ([.null, .null, .null, .null, .null, .null, .null, .null, .null, .null, .null, .null, .null, .null, .int 0]) j := by decide +kernel
  exact h j hj⟩
theorem mb_X11_mint : MLb yX11_mint cX11_mint 4 (some .boolean) 3 := ⟨mT2 106 (by decide +kernel) (by decide +kernel), (mT1 1 (by decide +kernel) (by decide +kernel)), by decide +kernel⟩
theorem ml_RL_13 : MLV RL 13 10 yX11_mint cX11_mint 4 (some .boolean) 3 := ⟨mb_X11_mint, (mT2 103 (by decide +kernel) (by decide +kernel)), (mT2 104 (by decide +kernel) (by decide +kernel)), (mT2 105 (by decide +kernel) (by decide +kernel)), ⟨_, _, rfl⟩⟩
theorem mb_X12_mint : MLb yX12_mint cX12_mint 4 (some .boolean) 3 := ⟨mT6 209 (by decide +kernel) (by decide +kernel), (mT1 14 (by decide +kernel) (by decide +kernel)), by decide +kernel⟩
theorem ml_RL_17 : MLV RL 17 11 yX12_mint cX12_mint 4 (some .boolean) 3 := ⟨mb_X12_mint, (mT6 206 (by decide +kernel) (by decide +kernel)), (mT6 207 (by decide +kernel) (by decide +kernel)), (mT6 208 (by decide +kernel) (by decide +kernel)), ⟨_, _, rfl⟩⟩
theorem mb_X11_feed : MLb yX11_feed cX11_feed 6 (some .int) 5 := ⟨mT2 118 (by decide +kernel) (by decide +kernel), (mT1 1 (by decide +kernel) (by decide +kernel)), by decide +kernel⟩
theorem ml_RL_18 : MLV RL 18 10 yX11_feed cX11_feed 6 (some .int) 5 := ⟨mb_X11_feed, (mT2 115 (by decide +kernel) (by decide +kernel)), (mT2 116 (by decide +kernel) (by decide +kernel)), (mT2 117 (by decide +kernel) (by decide +kernel)), ⟨_, _, rfl⟩⟩
theorem mb_X12_feed : MLb yX12_feed cX12_feed 6 (some .int) 5 := ⟨mT6 216 (by decide +kernel) (by decide +kernel), (mT1 14 (by decide +kernel) (by decide +kernel)), by decide +kernel⟩
theorem ml_RL_22 : MLV RL 22 11 yX12_feed cX12_feed 6 (some .int) 5 := ⟨mb_X12_feed, (mT6 213 (by decide +kernel) (by decide +kernel)), (mT6 214 (by decide +kernel) (by decide +kernel)), (mT6 215 (by decide +kernel) (by decide +kernel)), ⟨_, _, rfl⟩⟩
theorem mb_X11_law : MLb yX11_law cX11_law 4 (some .int) 1 := ⟨mT2 138 (by decide +kernel) (by decide +kernel), (mT1 1 (by decide +kernel) (by decide +kernel)), by decide +kernel⟩
theorem ml_RL_23 : MLV RL 23 10 yX11_law cX11_law 4 (some .int) 1 := ⟨mb_X11_law, (mT2 135 (by decide +kernel) (by decide +kernel)), (mT2 136 (by decide +kernel) (by decide +kernel)), (mT2 137 (by decide +kernel) (by decide +kernel)), ⟨_, _, rfl⟩⟩
theorem mb_X12_law : MLb yX12_law cX12_law 4 (some .int) 1 := ⟨mT6 224 (by decide +kernel) (by decide +kernel), (mT1 14 (by decide +kernel) (by decide +kernel)), by decide +kernel⟩
theorem ml_RL_27 : MLV RL 27 11 yX12_law cX12_law 4 (some .int) 1 := ⟨mb_X12_law, (mT6 221 (by decide +kernel) (by decide +kernel)), (mT6 222 (by decide +kernel) (by decide +kernel)), (mT6 223 (by decide +kernel) (by decide +kernel)), ⟨_, _, rfl⟩⟩
theorem mb_X11_sheet : MLb yX11_sheet cX11_sheet 3 (some .int) 1 := ⟨mT3 123 (by decide +kernel) (by decide +kernel), (mT1 1 (by decide +kernel) (by decide +kernel)), by decide +kernel⟩
theorem ml_RL_28 : MLV RL 28 10 yX11_sheet cX11_sheet 3 (some .int) 1 := ⟨mb_X11_sheet, (mT3 120 (by decide +kernel) (by decide +kernel)), (mT3 121 (by decide +kernel) (by decide +kernel)), (mT3 122 (by decide +kernel) (by decide +kernel)), ⟨_, _, rfl⟩⟩
theorem mb_X12_sheet : MLb yX12_sheet cX12_sheet 4 (some .int) 1 := ⟨mT7 71 (by decide +kernel) (by decide +kernel), (mT1 14 (by decide +kernel) (by decide +kernel)), by decide +kernel⟩
theorem ml_RL_31 : MLV RL 31 11 yX12_sheet cX12_sheet 4 (some .int) 1 := ⟨mb_X12_sheet, (mT7 68 (by decide +kernel) (by decide +kernel)), (mT7 69 (by decide +kernel) (by decide +kernel)), (mT7 70 (by decide +kernel) (by decide +kernel)), ⟨_, _, rfl⟩⟩
theorem mb_X11_post : MLb yX11_post cX11_post 3 (some .int) 1 := ⟨mT3 190 (by decide +kernel) (by decide +kernel), (mT1 1 (by decide +kernel) (by decide +kernel)), by decide +kernel⟩
theorem ml_RL_32 : MLV RL 32 10 yX11_post cX11_post 3 (some .int) 1 := ⟨mb_X11_post, (mT3 187 (by decide +kernel) (by decide +kernel)), (mT3 188 (by decide +kernel) (by decide +kernel)), (mT3 189 (by decide +kernel) (by decide +kernel)), ⟨_, _, rfl⟩⟩
theorem mb_X12_post : MLb yX12_post cX12_post 4 (some .int) 1 := ⟨mT7 87 (by decide +kernel) (by decide +kernel), (mT1 14 (by decide +kernel) (by decide +kernel)), by decide +kernel⟩
theorem ml_RL_35 : MLV RL 35 11 yX12_post cX12_post 4 (some .int) 1 := ⟨mb_X12_post, (mT7 84 (by decide +kernel) (by decide +kernel)), (mT7 85 (by decide +kernel) (by decide +kernel)), (mT7 86 (by decide +kernel) (by decide +kernel)), ⟨_, _, rfl⟩⟩
theorem mb_X11_days : MLb yX11_days cX11_days 2 (some .int) 1 := ⟨mT4 50 (by decide +kernel) (by decide +kernel), (mT1 1 (by decide +kernel) (by decide +kernel)), by decide +kernel⟩
theorem ml_RL_36 : MLV RL 36 10 yX11_days cX11_days 2 (some .int) 1 := ⟨mb_X11_days, (mT4 47 (by decide +kernel) (by decide +kernel)), (mT4 48 (by decide +kernel) (by decide +kernel)), (mT4 49 (by decide +kernel) (by decide +kernel)), ⟨_, _, rfl⟩⟩
theorem mb_X12_days : MLb yX12_days cX12_days 2 (some .int) 1 := ⟨mT7 118 (by decide +kernel) (by decide +kernel), (mT1 14 (by decide +kernel) (by decide +kernel)), by decide +kernel⟩
theorem ml_RL_39 : MLV RL 39 11 yX12_days cX12_days 2 (some .int) 1 := ⟨mb_X12_days, (mT7 115 (by decide +kernel) (by decide +kernel)), (mT7 116 (by decide +kernel) (by decide +kernel)), (mT7 117 (by decide +kernel) (by decide +kernel)), ⟨_, _, rfl⟩⟩
theorem mb_X11_tried : MLb yX11_tried cX11_tried 4 (some .int) 2 := ⟨mT4 212 (by decide +kernel) (by decide +kernel), (mT1 1 (by decide +kernel) (by decide +kernel)), by decide +kernel⟩
theorem ml_RL_40 : MLV RL 40 10 yX11_tried cX11_tried 4 (some .int) 2 := ⟨mb_X11_tried, (mT4 209 (by decide +kernel) (by decide +kernel)), (mT4 210 (by decide +kernel) (by decide +kernel)), (mT4 211 (by decide +kernel) (by decide +kernel)), ⟨_, _, rfl⟩⟩
theorem mb_X12_tried : MLb yX12_tried cX12_tried 4 (some .int) 2 := ⟨mT7 191 (by decide +kernel) (by decide +kernel), (mT1 14 (by decide +kernel) (by decide +kernel)), by decide +kernel⟩
theorem ml_RL_44 : MLV RL 44 11 yX12_tried cX12_tried 4 (some .int) 2 := ⟨mb_X12_tried, (mT7 188 (by decide +kernel) (by decide +kernel)), (mT7 189 (by decide +kernel) (by decide +kernel)), (mT7 190 (by decide +kernel) (by decide +kernel)), ⟨_, _, rfl⟩⟩
theorem mb_X11_letterIs : MLb yX11_letterIs cX11_letterIs 3 (some .int) 2 := ⟨mT4 239 (by decide +kernel) (by decide +kernel), (mT1 1 (by decide +kernel) (by decide +kernel)), by decide +kernel⟩
theorem ml_RL_45 : MLV RL 45 10 yX11_letterIs cX11_letterIs 3 (some .int) 2 := ⟨mb_X11_letterIs, (mT4 236 (by decide +kernel) (by decide +kernel)), (mT4 237 (by decide +kernel) (by decide +kernel)), (mT4 238 (by decide +kernel) (by decide +kernel)), ⟨_, _, rfl⟩⟩
theorem mb_X12_letterIs : MLb yX12_letterIs cX12_letterIs 3 (some .int) 2 := ⟨mT7 203 (by decide +kernel) (by decide +kernel), (mT1 14 (by decide +kernel) (by decide +kernel)), by decide +kernel⟩
theorem ml_RL_48 : MLV RL 48 11 yX12_letterIs cX12_letterIs 3 (some .int) 2 := ⟨mb_X12_letterIs, (mT7 200 (by decide +kernel) (by decide +kernel)), (mT7 201 (by decide +kernel) (by decide +kernel)), (mT7 202 (by decide +kernel) (by decide +kernel)), ⟨_, _, rfl⟩⟩
theorem mb_X11_stampIs : MLb yX11_stampIs cX11_stampIs 3 (some .int) 2 := ⟨mT5 18 (by decide +kernel) (by decide +kernel), (mT1 1 (by decide +kernel) (by decide +kernel)), by decide +kernel⟩
theorem ml_RL_49 : MLV RL 49 10 yX11_stampIs cX11_stampIs 3 (some .int) 2 := ⟨mb_X11_stampIs, (mT5 15 (by decide +kernel) (by decide +kernel)), (mT5 16 (by decide +kernel) (by decide +kernel)), (mT5 17 (by decide +kernel) (by decide +kernel)), ⟨_, _, rfl⟩⟩
theorem mb_X12_stampIs : MLb yX12_stampIs cX12_stampIs 3 (some .int) 2 := ⟨mT7 215 (by decide +kernel) (by decide +kernel), (mT1 14 (by decide +kernel) (by decide +kernel)), by decide +kernel⟩
theorem ml_RL_52 : MLV RL 52 11 yX12_stampIs cX12_stampIs 3 (some .int) 2 := ⟨mb_X12_stampIs, (mT7 212 (by decide +kernel) (by decide +kernel)), (mT7 213 (by decide +kernel) (by decide +kernel)), (mT7 214 (by decide +kernel) (by decide +kernel)), ⟨_, _, rfl⟩⟩
theorem mb_X11_comes : MLb yX11_comes cX11_comes 5 (some .int) 3 := ⟨mT5 24 (by decide +kernel) (by decide +kernel), (mT1 1 (by decide +kernel) (by decide +kernel)), by decide +kernel⟩
theorem ml_RL_53 : MLV RL 53 10 yX11_comes cX11_comes 5 (some .int) 3 := ⟨mb_X11_comes, (mT5 21 (by decide +kernel) (by decide +kernel)), (mT5 22 (by decide +kernel) (by decide +kernel)), (mT5 23 (by decide +kernel) (by decide +kernel)), ⟨_, _, rfl⟩⟩
theorem mb_X12_comes : MLb yX12_comes cX12_comes 6 (some .int) 3 := ⟨mT7 223 (by decide +kernel) (by decide +kernel), (mT1 14 (by decide +kernel) (by decide +kernel)), by decide +kernel⟩
theorem ml_RL_57 : MLV RL 57 11 yX12_comes cX12_comes 6 (some .int) 3 := ⟨mb_X12_comes, (mT7 220 (by decide +kernel) (by decide +kernel)), (mT7 221 (by decide +kernel) (by decide +kernel)), (mT7 222 (by decide +kernel) (by decide +kernel)), ⟨_, _, rfl⟩⟩
theorem mb_X11_atRest : MLb yX11_atRest cX11_atRest 6 (some .int) 2 := ⟨mT5 29 (by decide +kernel) (by decide +kernel), (mT1 1 (by decide +kernel) (by decide +kernel)), by decide +kernel⟩
theorem ml_RL_58 : MLV RL 58 10 yX11_atRest cX11_atRest 6 (some .int) 2 := ⟨mb_X11_atRest, (mT5 26 (by decide +kernel) (by decide +kernel)), (mT5 27 (by decide +kernel) (by decide +kernel)), (mT5 28 (by decide +kernel) (by decide +kernel)), ⟨_, _, rfl⟩⟩
theorem mb_X12_atRest : MLb yX12_atRest cX12_atRest 6 (some .int) 2 := ⟨mT7 230 (by decide +kernel) (by decide +kernel), (mT1 14 (by decide +kernel) (by decide +kernel)), by decide +kernel⟩
theorem ml_RL_61 : MLV RL 61 11 yX12_atRest cX12_atRest 6 (some .int) 2 := ⟨mb_X12_atRest, (mT7 227 (by decide +kernel) (by decide +kernel)), (mT7 228 (by decide +kernel) (by decide +kernel)), (mT7 229 (by decide +kernel) (by decide +kernel)), ⟨_, _, rfl⟩⟩
theorem mb_X11_meet : MLb yX11_meet cX11_meet 5 (some .int) 3 := ⟨mT5 33 (by decide +kernel) (by decide +kernel), (mT1 1 (by decide +kernel) (by decide +kernel)), by decide +kernel⟩
theorem ml_RL_62 : MLV RL 62 10 yX11_meet cX11_meet 5 (some .int) 3 := ⟨mb_X11_meet, (mT5 30 (by decide +kernel) (by decide +kernel)), (mT5 31 (by decide +kernel) (by decide +kernel)), (mT5 32 (by decide +kernel) (by decide +kernel)), ⟨_, _, rfl⟩⟩
theorem mb_X12_meet : MLb yX12_meet cX12_meet 6 (some .int) 3 := ⟨mT7 234 (by decide +kernel) (by decide +kernel), (mT1 14 (by decide +kernel) (by decide +kernel)), by decide +kernel⟩
theorem ml_RL_65 : MLV RL 65 11 yX12_meet cX12_meet 6 (some .int) 3 := ⟨mb_X12_meet, (mT7 231 (by decide +kernel) (by decide +kernel)), (mT7 232 (by decide +kernel) (by decide +kernel)), (mT7 233 (by decide +kernel) (by decide +kernel)), ⟨_, _, rfl⟩⟩
theorem mb_X11_again : MLb yX11_again cX11_again 6 (some .int) 2 := ⟨mT5 37 (by decide +kernel) (by decide +kernel), (mT1 1 (by decide +kernel) (by decide +kernel)), by decide +kernel⟩
theorem ml_RL_66 : MLV RL 66 10 yX11_again cX11_again 6 (some .int) 2 := ⟨mb_X11_again, (mT5 34 (by decide +kernel) (by decide +kernel)), (mT5 35 (by decide +kernel) (by decide +kernel)), (mT5 36 (by decide +kernel) (by decide +kernel)), ⟨_, _, rfl⟩⟩
theorem mb_X12_again : MLb yX12_again cX12_again 6 (some .int) 2 := ⟨mT7 238 (by decide +kernel) (by decide +kernel), (mT1 14 (by decide +kernel) (by decide +kernel)), by decide +kernel⟩
theorem ml_RL_69 : MLV RL 69 11 yX12_again cX12_again 6 (some .int) 2 := ⟨mb_X12_again, (mT7 235 (by decide +kernel) (by decide +kernel)), (mT7 236 (by decide +kernel) (by decide +kernel)), (mT7 237 (by decide +kernel) (by decide +kernel)), ⟨_, _, rfl⟩⟩
theorem mb_X11_home : MLb yX11_home cX11_home 7 (some .int) 2 := ⟨mT5 50 (by decide +kernel) (by decide +kernel), (mT1 1 (by decide +kernel) (by decide +kernel)), by decide +kernel⟩
theorem ml_RL_70 : MLV RL 70 10 yX11_home cX11_home 7 (some .int) 2 := ⟨mb_X11_home, (mT5 47 (by decide +kernel) (by decide +kernel)), (mT5 48 (by decide +kernel) (by decide +kernel)), (mT5 49 (by decide +kernel) (by decide +kernel)), ⟨_, _, rfl⟩⟩
theorem mb_X12_home : MLb yX12_home cX12_home 8 (some .int) 2 := ⟨mT8 2 (by decide +kernel) (by decide +kernel), (mT1 14 (by decide +kernel) (by decide +kernel)), by decide +kernel⟩
theorem ml_RL_73 : MLV RL 73 11 yX12_home cX12_home 8 (some .int) 2 := ⟨mb_X12_home, (mT7 239 (by decide +kernel) (by decide +kernel)), (mT8 0 (by decide +kernel) (by decide +kernel)), (mT8 1 (by decide +kernel) (by decide +kernel)), ⟨_, _, rfl⟩⟩
theorem mb_X11_lying : MLb yX11_lying cX11_lying 4 (some .int) 1 := ⟨mT5 58 (by decide +kernel) (by decide +kernel), (mT1 1 (by decide +kernel) (by decide +kernel)), by decide +kernel⟩
theorem ml_RL_74 : MLV RL 74 10 yX11_lying cX11_lying 4 (some .int) 1 := ⟨mb_X11_lying, (mT5 55 (by decide +kernel) (by decide +kernel)), (mT5 56 (by decide +kernel) (by decide +kernel)), (mT5 57 (by decide +kernel) (by decide +kernel)), ⟨_, _, rfl⟩⟩
theorem mb_X12_lying : MLb yX12_lying cX12_lying 4 (some .int) 1 := ⟨mT8 6 (by decide +kernel) (by decide +kernel), (mT1 14 (by decide +kernel) (by decide +kernel)), by decide +kernel⟩
theorem ml_RL_77 : MLV RL 77 11 yX12_lying cX12_lying 4 (some .int) 1 := ⟨mb_X12_lying, (mT8 3 (by decide +kernel) (by decide +kernel)), (mT8 4 (by decide +kernel) (by decide +kernel)), (mT8 5 (by decide +kernel) (by decide +kernel)), ⟨_, _, rfl⟩⟩
theorem mb_X11_stamped : MLb yX11_stamped cX11_stamped 6 (some .int) 5 := ⟨mT5 62 (by decide +kernel) (by decide +kernel), (mT1 1 (by decide +kernel) (by decide +kernel)), by decide +kernel⟩
theorem ml_RL_78 : MLV RL 78 10 yX11_stamped cX11_stamped 6 (some .int) 5 := ⟨mb_X11_stamped, (mT5 59 (by decide +kernel) (by decide +kernel)), (mT5 60 (by decide +kernel) (by decide +kernel)), (mT5 61 (by decide +kernel) (by decide +kernel)), ⟨_, _, rfl⟩⟩
theorem mb_X12_stamped : MLb yX12_stamped cX12_stamped 8 (some .int) 5 := ⟨mT8 10 (by decide +kernel) (by decide +kernel), (mT1 14 (by decide +kernel) (by decide +kernel)), by decide +kernel⟩
theorem ml_RL_81 : MLV RL 81 11 yX12_stamped cX12_stamped 8 (some .int) 5 := ⟨mb_X12_stamped, (mT8 7 (by decide +kernel) (by decide +kernel)), (mT8 8 (by decide +kernel) (by decide +kernel)), (mT8 9 (by decide +kernel) (by decide +kernel)), ⟨_, _, rfl⟩⟩
theorem mb_X11_hang : MLb yX11_hang cX11_hang 4 (some .int) 3 := ⟨mT5 115 (by decide +kernel) (by decide +kernel), (mT1 1 (by decide +kernel) (by decide +kernel)), by decide +kernel⟩
theorem ml_RL_82 : MLV RL 82 10 yX11_hang cX11_hang 4 (some .int) 3 := ⟨mb_X11_hang, (mT5 112 (by decide +kernel) (by decide +kernel)), (mT5 113 (by decide +kernel) (by decide +kernel)), (mT5 114 (by decide +kernel) (by decide +kernel)), ⟨_, _, rfl⟩⟩
theorem mb_X12_hang : MLb yX12_hang cX12_hang 7 (some .int) 3 := ⟨mT8 43 (by decide +kernel) (by decide +kernel), (mT1 14 (by decide +kernel) (by decide +kernel)), by decide +kernel⟩
theorem ml_RL_85 : MLV RL 85 11 yX12_hang cX12_hang 7 (some .int) 3 := ⟨mb_X12_hang, (mT8 40 (by decide +kernel) (by decide +kernel)), (mT8 41 (by decide +kernel) (by decide +kernel)), (mT8 42 (by decide +kernel) (by decide +kernel)), ⟨_, _, rfl⟩⟩
theorem mb_X11_falseOnes : MLb yX11_falseOnes cX11_falseOnes 6 (some .int) 5 := ⟨mT5 131 (by decide +kernel) (by decide +kernel), (mT1 1 (by decide +kernel) (by decide +kernel)), by decide +kernel⟩
theorem ml_RL_86 : MLV RL 86 10 yX11_falseOnes cX11_falseOnes 6 (some .int) 5 := ⟨mb_X11_falseOnes, (mT5 128 (by decide +kernel) (by decide +kernel)), (mT5 129 (by decide +kernel) (by decide +kernel)), (mT5 130 (by decide +kernel) (by decide +kernel)), ⟨_, _, rfl⟩⟩
theorem mb_X12_falseOnes : MLb yX12_falseOnes cX12_falseOnes 14 (some .int) 5 := ⟨mT8 47 (by decide +kernel) (by decide +kernel), (mT1 14 (by decide +kernel) (by decide +kernel)), by decide +kernel⟩
theorem ml_RL_89 : MLV RL 89 11 yX12_falseOnes cX12_falseOnes 14 (some .int) 5 := ⟨mb_X12_falseOnes, (mT8 44 (by decide +kernel) (by decide +kernel)), (mT8 45 (by decide +kernel) (by decide +kernel)), (mT8 46 (by decide +kernel) (by decide +kernel)), ⟨_, _, rfl⟩⟩
theorem mb_X11_printed : MLb yX11_printed cX11_printed 4 (some .int) 1 := ⟨mT5 139 (by decide +kernel) (by decide +kernel), (mT1 1 (by decide +kernel) (by decide +kernel)), by decide +kernel⟩
theorem ml_RL_90 : MLV RL 90 10 yX11_printed cX11_printed 4 (some .int) 1 := ⟨mb_X11_printed, (mT5 136 (by decide +kernel) (by decide +kernel)), (mT5 137 (by decide +kernel) (by decide +kernel)), (mT5 138 (by decide +kernel) (by decide +kernel)), ⟨_, _, rfl⟩⟩
theorem mb_X12_printed : MLb yX12_printed cX12_printed 6 (some .int) 1 := ⟨mT8 51 (by decide +kernel) (by decide +kernel), (mT1 14 (by decide +kernel) (by decide +kernel)), by decide +kernel⟩
theorem ml_RL_93 : MLV RL 93 11 yX12_printed cX12_printed 6 (some .int) 1 := ⟨mb_X12_printed, (mT8 48 (by decide +kernel) (by decide +kernel)), (mT8 49 (by decide +kernel) (by decide +kernel)), (mT8 50 (by decide +kernel) (by decide +kernel)), ⟨_, _, rfl⟩⟩
theorem mb_X11_ship : MLb yX11_ship cX11_ship 3 (some .int) 2 := ⟨mT5 154 (by decide +kernel) (by decide +kernel), (mT1 1 (by decide +kernel) (by decide +kernel)), by decide +kernel⟩
theorem ml_RL_94 : MLV RL 94 10 yX11_ship cX11_ship 3 (some .int) 2 := ⟨mb_X11_ship, (mT5 151 (by decide +kernel) (by decide +kernel)), (mT5 152 (by decide +kernel) (by decide +kernel)), (mT5 153 (by decide +kernel) (by decide +kernel)), ⟨_, _, rfl⟩⟩
theorem mb_X12_ship : MLb yX12_ship cX12_ship 8 (some .int) 2 := ⟨mT8 59 (by decide +kernel) (by decide +kernel), (mT1 14 (by decide +kernel) (by decide +kernel)), by decide +kernel⟩
theorem ml_RL_97 : MLV RL 97 11 yX12_ship cX12_ship 8 (some .int) 2 := ⟨mb_X12_ship, (mT8 56 (by decide +kernel) (by decide +kernel)), (mT8 57 (by decide +kernel) (by decide +kernel)), (mT8 58 (by decide +kernel) (by decide +kernel)), ⟨_, _, rfl⟩⟩
theorem mb_X11_mule : MLb yX11_mule cX11_mule 5 (some .int) 3 := ⟨mT5 176 (by decide +kernel) (by decide +kernel), (mT1 1 (by decide +kernel) (by decide +kernel)), by decide +kernel⟩
theorem ml_RL_98 : MLV RL 98 10 yX11_mule cX11_mule 5 (some .int) 3 := ⟨mb_X11_mule, (mT5 173 (by decide +kernel) (by decide +kernel)), (mT5 174 (by decide +kernel) (by decide +kernel)), (mT5 175 (by decide +kernel) (by decide +kernel)), ⟨_, _, rfl⟩⟩
theorem mb_X12_mule : MLb yX12_mule cX12_mule 8 (some .int) 3 := ⟨mT8 68 (by decide +kernel) (by decide +kernel), (mT1 14 (by decide +kernel) (by decide +kernel)), by decide +kernel⟩
theorem ml_RL_101 : MLV RL 101 11 yX12_mule cX12_mule 8 (some .int) 3 := ⟨mb_X12_mule, (mT8 65 (by decide +kernel) (by decide +kernel)), (mT8 66 (by decide +kernel) (by decide +kernel)), (mT8 67 (by decide +kernel) (by decide +kernel)), ⟨_, _, rfl⟩⟩
theorem mb_X11_marks : MLb yX11_marks cX11_marks 4 (some .int) 2 := ⟨mT5 189 (by decide +kernel) (by decide +kernel), (mT1 1 (by decide +kernel) (by decide +kernel)), by decide +kernel⟩
theorem ml_RL_102 : MLV RL 102 10 yX11_marks cX11_marks 4 (some .int) 2 := ⟨mb_X11_marks, (mT5 186 (by decide +kernel) (by decide +kernel)), (mT5 187 (by decide +kernel) (by decide +kernel)), (mT5 188 (by decide +kernel) (by decide +kernel)), ⟨_, _, rfl⟩⟩
theorem mb_X12_marks : MLb yX12_marks cX12_marks 4 (some .int) 2 := ⟨mT8 72 (by decide +kernel) (by decide +kernel), (mT1 14 (by decide +kernel) (by decide +kernel)), by decide +kernel⟩
theorem ml_RL_105 : MLV RL 105 11 yX12_marks cX12_marks 4 (some .int) 2 := ⟨mb_X12_marks, (mT8 69 (by decide +kernel) (by decide +kernel)), (mT8 70 (by decide +kernel) (by decide +kernel)), (mT8 71 (by decide +kernel) (by decide +kernel)), ⟨_, _, rfl⟩⟩
theorem mb_X11_franked : MLb yX11_franked cX11_franked 4 (some .int) 2 := ⟨mT5 203 (by decide +kernel) (by decide +kernel), (mT1 1 (by decide +kernel) (by decide +kernel)), by decide +kernel⟩
theorem ml_RL_106 : MLV RL 106 10 yX11_franked cX11_franked 4 (some .int) 2 := ⟨mb_X11_franked, (mT5 200 (by decide +kernel) (by decide +kernel)), (mT5 201 (by decide +kernel) (by decide +kernel)), (mT5 202 (by decide +kernel) (by decide +kernel)), ⟨_, _, rfl⟩⟩
theorem mb_X12_franked : MLb yX12_franked cX12_franked 3 (some .int) 2 := ⟨mT8 80 (by decide +kernel) (by decide +kernel), (mT1 14 (by decide +kernel) (by decide +kernel)), by decide +kernel⟩
theorem ml_RL_109 : MLV RL 109 11 yX12_franked cX12_franked 3 (some .int) 2 := ⟨mb_X12_franked, (mT8 77 (by decide +kernel) (by decide +kernel)), (mT8 78 (by decide +kernel) (by decide +kernel)), (mT8 79 (by decide +kernel) (by decide +kernel)), ⟨_, _, rfl⟩⟩
theorem mb_X11_exchange : MLb yX11_exchange cX11_exchange 4 (some .int) 2 := ⟨mT5 211 (by decide +kernel) (by decide +kernel), (mT1 1 (by decide +kernel) (by decide +kernel)), by decide +kernel⟩
theorem ml_RL_110 : MLV RL 110 10 yX11_exchange cX11_exchange 4 (some .int) 2 := ⟨mb_X11_exchange, (mT5 208 (by decide +kernel) (by decide +kernel)), (mT5 209 (by decide +kernel) (by decide +kernel)), (mT5 210 (by decide +kernel) (by decide +kernel)), ⟨_, _, rfl⟩⟩
theorem mb_X12_exchange : MLb yX12_exchange cX12_exchange 4 (some .int) 2 := ⟨mT8 84 (by decide +kernel) (by decide +kernel), (mT1 14 (by decide +kernel) (by decide +kernel)), by decide +kernel⟩
theorem ml_RL_113 : MLV RL 113 11 yX12_exchange cX12_exchange 4 (some .int) 2 := ⟨mb_X12_exchange, (mT8 81 (by decide +kernel) (by decide +kernel)), (mT8 82 (by decide +kernel) (by decide +kernel)), (mT8 83 (by decide +kernel) (by decide +kernel)), ⟨_, _, rfl⟩⟩
theorem mb_X11_seed : MLb yX11_seed cX11_seed 2 (some .boolean) 1 := ⟨mT5 239 (by decide +kernel) (by decide +kernel), (mT1 1 (by decide +kernel) (by decide +kernel)), by decide +kernel⟩
theorem ml_RL_114 : MLV RL 114 10 yX11_seed cX11_seed 2 (some .boolean) 1 := ⟨mb_X11_seed, (mT5 236 (by decide +kernel) (by decide +kernel)), (mT5 237 (by decide +kernel) (by decide +kernel)), (mT5 238 (by decide +kernel) (by decide +kernel)), ⟨_, _, rfl⟩⟩
theorem mb_X12_seed : MLb yX12_seed cX12_seed 2 (some .boolean) 1 := ⟨mT8 100 (by decide +kernel) (by decide +kernel), (mT1 14 (by decide +kernel) (by decide +kernel)), by decide +kernel⟩
theorem ml_RL_118 : MLV RL 118 11 yX12_seed cX12_seed 2 (some .boolean) 1 := ⟨mb_X12_seed, (mT8 97 (by decide +kernel) (by decide +kernel)), (mT8 98 (by decide +kernel) (by decide +kernel)), (mT8 99 (by decide +kernel) (by decide +kernel)), ⟨_, _, rfl⟩⟩
theorem mb_X11_keep : MLb yX11_keep cX11_keep 1 (some .int) 0 := ⟨mT6 8 (by decide +kernel) (by decide +kernel), (mT1 1 (by decide +kernel) (by decide +kernel)), by decide +kernel⟩
theorem ml_RL_119 : MLV RL 119 10 yX11_keep cX11_keep 1 (some .int) 0 := ⟨mb_X11_keep, (mT6 5 (by decide +kernel) (by decide +kernel)), (mT6 6 (by decide +kernel) (by decide +kernel)), (mT6 7 (by decide +kernel) (by decide +kernel)), ⟨_, _, rfl⟩⟩
theorem mb_X12_keep : MLb yX12_keep cX12_keep 2 (some .int) 0 := ⟨mT8 105 (by decide +kernel) (by decide +kernel), (mT1 14 (by decide +kernel) (by decide +kernel)), by decide +kernel⟩
theorem ml_RL_123 : MLV RL 123 11 yX12_keep cX12_keep 2 (some .int) 0 := ⟨mb_X12_keep, (mT8 102 (by decide +kernel) (by decide +kernel)), (mT8 103 (by decide +kernel) (by decide +kernel)), (mT8 104 (by decide +kernel) (by decide +kernel)), ⟨_, _, rfl⟩⟩
theorem mb_X11_undo : MLb yX11_undo cX11_undo 1 (some .boolean) 0 := ⟨mT6 13 (by decide +kernel) (by decide +kernel), (mT1 1 (by decide +kernel) (by decide +kernel)), by decide +kernel⟩
theorem ml_RL_124 : MLV RL 124 10 yX11_undo cX11_undo 1 (some .boolean) 0 := ⟨mb_X11_undo, (mT6 10 (by decide +kernel) (by decide +kernel)), (mT6 11 (by decide +kernel) (by decide +kernel)), (mT6 12 (by decide +kernel) (by decide +kernel)), ⟨_, _, rfl⟩⟩
theorem mb_X12_undo : MLb yX12_undo cX12_undo 1 (some .boolean) 0 := ⟨mT8 109 (by decide +kernel) (by decide +kernel), (mT1 14 (by decide +kernel) (by decide +kernel)), by decide +kernel⟩
theorem ml_RL_128 : MLV RL 128 11 yX12_undo cX12_undo 1 (some .boolean) 0 := ⟨mb_X12_undo, (mT8 106 (by decide +kernel) (by decide +kernel)), (mT8 107 (by decide +kernel) (by decide +kernel)), (mT8 108 (by decide +kernel) (by decide +kernel)), ⟨_, _, rfl⟩⟩
theorem mb_X11_check : MLb yX11_check cX11_check 5 (some .int) 1 := ⟨mT6 17 (by decide +kernel) (by decide +kernel), (mT1 1 (by decide +kernel) (by decide +kernel)), by decide +kernel⟩
theorem ml_RL_129 : MLV RL 129 10 yX11_check cX11_check 5 (some .int) 1 := ⟨mb_X11_check, (mT6 14 (by decide +kernel) (by decide +kernel)), (mT6 15 (by decide +kernel) (by decide +kernel)), (mT6 16 (by decide +kernel) (by decide +kernel)), ⟨_, _, rfl⟩⟩
theorem mb_X12_check : MLb yX12_check cX12_check 3 (some .int) 1 := ⟨mT8 113 (by decide +kernel) (by decide +kernel), (mT1 14 (by decide +kernel) (by decide +kernel)), by decide +kernel⟩
theorem ml_RL_132 : MLV RL 132 11 yX12_check cX12_check 3 (some .int) 1 := ⟨mb_X12_check, (mT8 110 (by decide +kernel) (by decide +kernel)), (mT8 111 (by decide +kernel) (by decide +kernel)), (mT8 112 (by decide +kernel) (by decide +kernel)), ⟨_, _, rfl⟩⟩
theorem mb_X11_count : MLb yX11_count cX11_count 2 (some .int) 1 := ⟨mT6 21 (by decide +kernel) (by decide +kernel), (mT1 1 (by decide +kernel) (by decide +kernel)), by decide +kernel⟩
theorem ml_RL_133 : MLV RL 133 10 yX11_count cX11_count 2 (some .int) 1 := ⟨mb_X11_count, (mT6 18 (by decide +kernel) (by decide +kernel)), (mT6 19 (by decide +kernel) (by decide +kernel)), (mT6 20 (by decide +kernel) (by decide +kernel)), ⟨_, _, rfl⟩⟩
theorem mb_X12_count : MLb yX12_count cX12_count 4 (some .int) 1 := ⟨mT8 117 (by decide +kernel) (by decide +kernel), (mT1 14 (by decide +kernel) (by decide +kernel)), by decide +kernel⟩
theorem ml_RL_136 : MLV RL 136 11 yX12_count cX12_count 4 (some .int) 1 := ⟨mb_X12_count, (mT8 114 (by decide +kernel) (by decide +kernel)), (mT8 115 (by decide +kernel) (by decide +kernel)), (mT8 116 (by decide +kernel) (by decide +kernel)), ⟨_, _, rfl⟩⟩
theorem dL_law_0 : decode cL_law 0 = .ok (.new 7, 3) := by decide +kernel
theorem dL_law_3 : decode cL_law 3 = .ok (.dup, 1) := by decide +kernel
theorem dL_law_4 : decode cL_law 4 = .ok (.invokespecial 9, 3) := by decide +kernel
theorem dL_law_7 : decode cL_law 7 = .ok (.astore_n 1, 1) := by decide +kernel
theorem dL_law_8 : decode cL_law 8 = .ok (.new 10, 3) := by decide +kernel
theorem dL_law_11 : decode cL_law 11 = .ok (.dup, 1) := by decide +kernel
theorem dL_law_12 : decode cL_law 12 = .ok (.invokespecial 12, 3) := by decide +kernel
theorem dL_law_15 : decode cL_law 15 = .ok (.astore_n 2, 1) := by decide +kernel
theorem dL_law_16 : decode cL_law 16 = .ok (.iconst 0, 1) := by decide +kernel
theorem dL_law_17 : decode cL_law 17 = .ok (.istore_n 3, 1) := by decide +kernel
theorem dL_law_18 : decode cL_law 18 = .ok (.iload_n 3, 1) := by decide +kernel
theorem dL_law_19 : decode cL_law 19 = .ok (.aload_n 0, 1) := by decide +kernel
theorem dL_law_20 : decode cL_law 20 = .ok (.arraylength, 1) := by decide +kernel
theorem dL_law_21 : decode cL_law 21 = .ok (.bipush 6, 2) := by decide +kernel
theorem dL_law_23 : decode cL_law 23 = .ok (.isub, 1) := by decide +kernel
theorem dL_law_24 : decode cL_law 24 = .ok (.if_icmp .gt 1113, 3) := by decide +kernel
theorem dL_law_27 : decode cL_law 27 = .ok (.aload_n 0, 1) := by decide +kernel
theorem dL_law_28 : decode cL_law 28 = .ok (.iload_n 3, 1) := by decide +kernel
theorem dL_law_29 : decode cL_law 29 = .ok (.iaload, 1) := by decide +kernel
theorem dL_law_30 : decode cL_law 30 = .ok (.bipush 31, 2) := by decide +kernel
theorem dL_law_32 : decode cL_law 32 = .ok (.iand, 1) := by decide +kernel
theorem dL_law_33 : decode cL_law 33 = .ok (.tableswitch 1098 0 28 #[131, 174, 237, 260, 283, 306, 329, 362, 395, 428, 471, 504, 547, 580, 613, 636, 699, 742, 805, 828, 861, 904, 937, 970, 1003, 1026, 1039, 1052, 1075], 131) := by decide +kernel
theorem dL_law_164 : decode cL_law 164 = .ok (.aload_n 1, 1) := by decide +kernel
theorem dL_law_165 : decode cL_law 165 = .ok (.aload_n 0, 1) := by decide +kernel
theorem dL_law_166 : decode cL_law 166 = .ok (.iload_n 3, 1) := by decide +kernel
theorem dL_law_167 : decode cL_law 167 = .ok (.iconst 1, 1) := by decide +kernel
theorem dL_law_168 : decode cL_law 168 = .ok (.iadd, 1) := by decide +kernel
theorem dL_law_169 : decode cL_law 169 = .ok (.iaload, 1) := by decide +kernel
theorem dL_law_170 : decode cL_law 170 = .ok (.aload_n 0, 1) := by decide +kernel
theorem dL_law_171 : decode cL_law 171 = .ok (.iload_n 3, 1) := by decide +kernel
theorem dL_law_172 : decode cL_law 172 = .ok (.iconst 2, 1) := by decide +kernel
theorem dL_law_173 : decode cL_law 173 = .ok (.iadd, 1) := by decide +kernel
theorem dL_law_174 : decode cL_law 174 = .ok (.iaload, 1) := by decide +kernel
theorem dL_law_175 : decode cL_law 175 = .ok (.aload_n 0, 1) := by decide +kernel
theorem dL_law_176 : decode cL_law 176 = .ok (.iload_n 3, 1) := by decide +kernel
theorem dL_law_177 : decode cL_law 177 = .ok (.iconst 3, 1) := by decide +kernel
theorem dL_law_178 : decode cL_law 178 = .ok (.iadd, 1) := by decide +kernel
theorem dL_law_179 : decode cL_law 179 = .ok (.iaload, 1) := by decide +kernel
theorem dL_law_180 : decode cL_law 180 = .ok (.invokevirtual 13, 3) := by decide +kernel
theorem dL_law_183 : decode cL_law 183 = .ok (.pop, 1) := by decide +kernel
theorem dL_law_184 : decode cL_law 184 = .ok (.aload_n 2, 1) := by decide +kernel
theorem dL_law_185 : decode cL_law 185 = .ok (.aload_n 0, 1) := by decide +kernel
theorem dL_law_186 : decode cL_law 186 = .ok (.iload_n 3, 1) := by decide +kernel
theorem dL_law_187 : decode cL_law 187 = .ok (.iconst 1, 1) := by decide +kernel
theorem dL_law_188 : decode cL_law 188 = .ok (.iadd, 1) := by decide +kernel
theorem dL_law_189 : decode cL_law 189 = .ok (.iaload, 1) := by decide +kernel
theorem dL_law_190 : decode cL_law 190 = .ok (.aload_n 0, 1) := by decide +kernel
theorem dL_law_191 : decode cL_law 191 = .ok (.iload_n 3, 1) := by decide +kernel
theorem dL_law_192 : decode cL_law 192 = .ok (.iconst 2, 1) := by decide +kernel
theorem dL_law_193 : decode cL_law 193 = .ok (.iadd, 1) := by decide +kernel
theorem dL_law_194 : decode cL_law 194 = .ok (.iaload, 1) := by decide +kernel
theorem dL_law_195 : decode cL_law 195 = .ok (.aload_n 0, 1) := by decide +kernel
theorem dL_law_196 : decode cL_law 196 = .ok (.iload_n 3, 1) := by decide +kernel
theorem dL_law_197 : decode cL_law 197 = .ok (.iconst 3, 1) := by decide +kernel
theorem dL_law_198 : decode cL_law 198 = .ok (.iadd, 1) := by decide +kernel
theorem dL_law_199 : decode cL_law 199 = .ok (.iaload, 1) := by decide +kernel
theorem dL_law_200 : decode cL_law 200 = .ok (.invokevirtual 17, 3) := by decide +kernel
theorem dL_law_203 : decode cL_law 203 = .ok (.pop, 1) := by decide +kernel
theorem dL_law_204 : decode cL_law 204 = .ok (.goto 927, 3) := by decide +kernel
theorem dL_law_207 : decode cL_law 207 = .ok (.aload_n 1, 1) := by decide +kernel
theorem dL_law_208 : decode cL_law 208 = .ok (.aload_n 0, 1) := by decide +kernel
theorem dL_law_209 : decode cL_law 209 = .ok (.iload_n 3, 1) := by decide +kernel
theorem dL_law_210 : decode cL_law 210 = .ok (.iconst 1, 1) := by decide +kernel
theorem dL_law_211 : decode cL_law 211 = .ok (.iadd, 1) := by decide +kernel
theorem dL_law_212 : decode cL_law 212 = .ok (.iaload, 1) := by decide +kernel
theorem dL_law_213 : decode cL_law 213 = .ok (.aload_n 0, 1) := by decide +kernel
theorem dL_law_214 : decode cL_law 214 = .ok (.iload_n 3, 1) := by decide +kernel
theorem dL_law_215 : decode cL_law 215 = .ok (.iconst 2, 1) := by decide +kernel
theorem dL_law_216 : decode cL_law 216 = .ok (.iadd, 1) := by decide +kernel
theorem dL_law_217 : decode cL_law 217 = .ok (.iaload, 1) := by decide +kernel
theorem dL_law_218 : decode cL_law 218 = .ok (.aload_n 0, 1) := by decide +kernel
theorem dL_law_219 : decode cL_law 219 = .ok (.iload_n 3, 1) := by decide +kernel
theorem dL_law_220 : decode cL_law 220 = .ok (.iconst 3, 1) := by decide +kernel
theorem dL_law_221 : decode cL_law 221 = .ok (.iadd, 1) := by decide +kernel
theorem dL_law_222 : decode cL_law 222 = .ok (.iaload, 1) := by decide +kernel
theorem dL_law_223 : decode cL_law 223 = .ok (.aload_n 0, 1) := by decide +kernel
theorem dL_law_224 : decode cL_law 224 = .ok (.iload_n 3, 1) := by decide +kernel
theorem dL_law_225 : decode cL_law 225 = .ok (.iconst 4, 1) := by decide +kernel
theorem dL_law_226 : decode cL_law 226 = .ok (.iadd, 1) := by decide +kernel
theorem dL_law_227 : decode cL_law 227 = .ok (.iaload, 1) := by decide +kernel
theorem dL_law_228 : decode cL_law 228 = .ok (.aload_n 0, 1) := by decide +kernel
theorem dL_law_229 : decode cL_law 229 = .ok (.iload_n 3, 1) := by decide +kernel
theorem dL_law_230 : decode cL_law 230 = .ok (.iconst 5, 1) := by decide +kernel
theorem dL_law_231 : decode cL_law 231 = .ok (.iadd, 1) := by decide +kernel
theorem dL_law_232 : decode cL_law 232 = .ok (.iaload, 1) := by decide +kernel
theorem dL_law_233 : decode cL_law 233 = .ok (.invokevirtual 18, 3) := by decide +kernel
theorem dL_law_236 : decode cL_law 236 = .ok (.pop, 1) := by decide +kernel
theorem dL_law_237 : decode cL_law 237 = .ok (.aload_n 2, 1) := by decide +kernel
theorem dL_law_238 : decode cL_law 238 = .ok (.aload_n 0, 1) := by decide +kernel
theorem dL_law_239 : decode cL_law 239 = .ok (.iload_n 3, 1) := by decide +kernel
theorem dL_law_240 : decode cL_law 240 = .ok (.iconst 1, 1) := by decide +kernel
theorem dL_law_241 : decode cL_law 241 = .ok (.iadd, 1) := by decide +kernel
theorem dL_law_242 : decode cL_law 242 = .ok (.iaload, 1) := by decide +kernel
theorem dL_law_243 : decode cL_law 243 = .ok (.aload_n 0, 1) := by decide +kernel
theorem dL_law_244 : decode cL_law 244 = .ok (.iload_n 3, 1) := by decide +kernel
theorem dL_law_245 : decode cL_law 245 = .ok (.iconst 2, 1) := by decide +kernel
theorem dL_law_246 : decode cL_law 246 = .ok (.iadd, 1) := by decide +kernel
theorem dL_law_247 : decode cL_law 247 = .ok (.iaload, 1) := by decide +kernel
theorem dL_law_248 : decode cL_law 248 = .ok (.aload_n 0, 1) := by decide +kernel
theorem dL_law_249 : decode cL_law 249 = .ok (.iload_n 3, 1) := by decide +kernel
theorem dL_law_250 : decode cL_law 250 = .ok (.iconst 3, 1) := by decide +kernel
theorem dL_law_251 : decode cL_law 251 = .ok (.iadd, 1) := by decide +kernel
theorem dL_law_252 : decode cL_law 252 = .ok (.iaload, 1) := by decide +kernel
theorem dL_law_253 : decode cL_law 253 = .ok (.aload_n 0, 1) := by decide +kernel
theorem dL_law_254 : decode cL_law 254 = .ok (.iload_n 3, 1) := by decide +kernel
theorem dL_law_255 : decode cL_law 255 = .ok (.iconst 4, 1) := by decide +kernel
theorem dL_law_256 : decode cL_law 256 = .ok (.iadd, 1) := by decide +kernel
theorem dL_law_257 : decode cL_law 257 = .ok (.iaload, 1) := by decide +kernel
theorem dL_law_258 : decode cL_law 258 = .ok (.aload_n 0, 1) := by decide +kernel
theorem dL_law_259 : decode cL_law 259 = .ok (.iload_n 3, 1) := by decide +kernel
theorem dL_law_260 : decode cL_law 260 = .ok (.iconst 5, 1) := by decide +kernel
theorem dL_law_261 : decode cL_law 261 = .ok (.iadd, 1) := by decide +kernel
theorem dL_law_262 : decode cL_law 262 = .ok (.iaload, 1) := by decide +kernel
theorem dL_law_263 : decode cL_law 263 = .ok (.invokevirtual 22, 3) := by decide +kernel
theorem dL_law_266 : decode cL_law 266 = .ok (.pop, 1) := by decide +kernel
theorem dL_law_267 : decode cL_law 267 = .ok (.goto 864, 3) := by decide +kernel
theorem dL_law_270 : decode cL_law 270 = .ok (.aload_n 1, 1) := by decide +kernel
theorem dL_law_271 : decode cL_law 271 = .ok (.aload_n 0, 1) := by decide +kernel
theorem dL_law_272 : decode cL_law 272 = .ok (.iload_n 3, 1) := by decide +kernel
theorem dL_law_273 : decode cL_law 273 = .ok (.iconst 1, 1) := by decide +kernel
theorem dL_law_274 : decode cL_law 274 = .ok (.iadd, 1) := by decide +kernel
theorem dL_law_275 : decode cL_law 275 = .ok (.iaload, 1) := by decide +kernel
theorem dL_law_276 : decode cL_law 276 = .ok (.invokevirtual 23, 3) := by decide +kernel
theorem dL_law_279 : decode cL_law 279 = .ok (.pop, 1) := by decide +kernel
theorem dL_law_280 : decode cL_law 280 = .ok (.aload_n 2, 1) := by decide +kernel
theorem dL_law_281 : decode cL_law 281 = .ok (.aload_n 0, 1) := by decide +kernel
theorem dL_law_282 : decode cL_law 282 = .ok (.iload_n 3, 1) := by decide +kernel
theorem dL_law_283 : decode cL_law 283 = .ok (.iconst 1, 1) := by decide +kernel
theorem dL_law_284 : decode cL_law 284 = .ok (.iadd, 1) := by decide +kernel
theorem dL_law_285 : decode cL_law 285 = .ok (.iaload, 1) := by decide +kernel
theorem dL_law_286 : decode cL_law 286 = .ok (.invokevirtual 27, 3) := by decide +kernel
theorem dL_law_289 : decode cL_law 289 = .ok (.pop, 1) := by decide +kernel
theorem dL_law_290 : decode cL_law 290 = .ok (.goto 841, 3) := by decide +kernel
theorem dL_law_293 : decode cL_law 293 = .ok (.aload_n 1, 1) := by decide +kernel
theorem dL_law_294 : decode cL_law 294 = .ok (.aload_n 0, 1) := by decide +kernel
theorem dL_law_295 : decode cL_law 295 = .ok (.iload_n 3, 1) := by decide +kernel
theorem dL_law_296 : decode cL_law 296 = .ok (.iconst 1, 1) := by decide +kernel
theorem dL_law_297 : decode cL_law 297 = .ok (.iadd, 1) := by decide +kernel
theorem dL_law_298 : decode cL_law 298 = .ok (.iaload, 1) := by decide +kernel
theorem dL_law_299 : decode cL_law 299 = .ok (.invokevirtual 28, 3) := by decide +kernel
theorem dL_law_302 : decode cL_law 302 = .ok (.pop, 1) := by decide +kernel
theorem dL_law_303 : decode cL_law 303 = .ok (.aload_n 2, 1) := by decide +kernel
theorem dL_law_304 : decode cL_law 304 = .ok (.aload_n 0, 1) := by decide +kernel
theorem dL_law_305 : decode cL_law 305 = .ok (.iload_n 3, 1) := by decide +kernel
theorem dL_law_306 : decode cL_law 306 = .ok (.iconst 1, 1) := by decide +kernel
theorem dL_law_307 : decode cL_law 307 = .ok (.iadd, 1) := by decide +kernel
theorem dL_law_308 : decode cL_law 308 = .ok (.iaload, 1) := by decide +kernel
theorem dL_law_309 : decode cL_law 309 = .ok (.invokevirtual 31, 3) := by decide +kernel
theorem dL_law_312 : decode cL_law 312 = .ok (.pop, 1) := by decide +kernel
theorem dL_law_313 : decode cL_law 313 = .ok (.goto 818, 3) := by decide +kernel
theorem dL_law_316 : decode cL_law 316 = .ok (.aload_n 1, 1) := by decide +kernel
theorem dL_law_317 : decode cL_law 317 = .ok (.aload_n 0, 1) := by decide +kernel
theorem dL_law_318 : decode cL_law 318 = .ok (.iload_n 3, 1) := by decide +kernel
theorem dL_law_319 : decode cL_law 319 = .ok (.iconst 1, 1) := by decide +kernel
theorem dL_law_320 : decode cL_law 320 = .ok (.iadd, 1) := by decide +kernel
theorem dL_law_321 : decode cL_law 321 = .ok (.iaload, 1) := by decide +kernel
theorem dL_law_322 : decode cL_law 322 = .ok (.invokevirtual 32, 3) := by decide +kernel
theorem dL_law_325 : decode cL_law 325 = .ok (.pop, 1) := by decide +kernel
theorem dL_law_326 : decode cL_law 326 = .ok (.aload_n 2, 1) := by decide +kernel
theorem dL_law_327 : decode cL_law 327 = .ok (.aload_n 0, 1) := by decide +kernel
theorem dL_law_328 : decode cL_law 328 = .ok (.iload_n 3, 1) := by decide +kernel
theorem dL_law_329 : decode cL_law 329 = .ok (.iconst 1, 1) := by decide +kernel
theorem dL_law_330 : decode cL_law 330 = .ok (.iadd, 1) := by decide +kernel
theorem dL_law_331 : decode cL_law 331 = .ok (.iaload, 1) := by decide +kernel
theorem dL_law_332 : decode cL_law 332 = .ok (.invokevirtual 35, 3) := by decide +kernel
theorem dL_law_335 : decode cL_law 335 = .ok (.pop, 1) := by decide +kernel
theorem dL_law_336 : decode cL_law 336 = .ok (.goto 795, 3) := by decide +kernel
theorem dL_law_339 : decode cL_law 339 = .ok (.aload_n 1, 1) := by decide +kernel
theorem dL_law_340 : decode cL_law 340 = .ok (.aload_n 0, 1) := by decide +kernel
theorem dL_law_341 : decode cL_law 341 = .ok (.iload_n 3, 1) := by decide +kernel
theorem dL_law_342 : decode cL_law 342 = .ok (.iconst 1, 1) := by decide +kernel
theorem dL_law_343 : decode cL_law 343 = .ok (.iadd, 1) := by decide +kernel
theorem dL_law_344 : decode cL_law 344 = .ok (.iaload, 1) := by decide +kernel
theorem dL_law_345 : decode cL_law 345 = .ok (.invokevirtual 36, 3) := by decide +kernel
theorem dL_law_348 : decode cL_law 348 = .ok (.pop, 1) := by decide +kernel
theorem dL_law_349 : decode cL_law 349 = .ok (.aload_n 2, 1) := by decide +kernel
theorem dL_law_350 : decode cL_law 350 = .ok (.aload_n 0, 1) := by decide +kernel
theorem dL_law_351 : decode cL_law 351 = .ok (.iload_n 3, 1) := by decide +kernel
theorem dL_law_352 : decode cL_law 352 = .ok (.iconst 1, 1) := by decide +kernel
theorem dL_law_353 : decode cL_law 353 = .ok (.iadd, 1) := by decide +kernel
theorem dL_law_354 : decode cL_law 354 = .ok (.iaload, 1) := by decide +kernel
theorem dL_law_355 : decode cL_law 355 = .ok (.invokevirtual 39, 3) := by decide +kernel
theorem dL_law_358 : decode cL_law 358 = .ok (.pop, 1) := by decide +kernel
theorem dL_law_359 : decode cL_law 359 = .ok (.goto 772, 3) := by decide +kernel
theorem dL_law_362 : decode cL_law 362 = .ok (.aload_n 1, 1) := by decide +kernel
theorem dL_law_363 : decode cL_law 363 = .ok (.aload_n 0, 1) := by decide +kernel
theorem dL_law_364 : decode cL_law 364 = .ok (.iload_n 3, 1) := by decide +kernel
theorem dL_law_365 : decode cL_law 365 = .ok (.iconst 1, 1) := by decide +kernel
theorem dL_law_366 : decode cL_law 366 = .ok (.iadd, 1) := by decide +kernel
theorem dL_law_367 : decode cL_law 367 = .ok (.iaload, 1) := by decide +kernel
theorem dL_law_368 : decode cL_law 368 = .ok (.aload_n 0, 1) := by decide +kernel
theorem dL_law_369 : decode cL_law 369 = .ok (.iload_n 3, 1) := by decide +kernel
theorem dL_law_370 : decode cL_law 370 = .ok (.iconst 2, 1) := by decide +kernel
theorem dL_law_371 : decode cL_law 371 = .ok (.iadd, 1) := by decide +kernel
theorem dL_law_372 : decode cL_law 372 = .ok (.iaload, 1) := by decide +kernel
theorem dL_law_373 : decode cL_law 373 = .ok (.invokevirtual 40, 3) := by decide +kernel
theorem dL_law_376 : decode cL_law 376 = .ok (.pop, 1) := by decide +kernel
theorem dL_law_377 : decode cL_law 377 = .ok (.aload_n 2, 1) := by decide +kernel
theorem dL_law_378 : decode cL_law 378 = .ok (.aload_n 0, 1) := by decide +kernel
theorem dL_law_379 : decode cL_law 379 = .ok (.iload_n 3, 1) := by decide +kernel
theorem dL_law_380 : decode cL_law 380 = .ok (.iconst 1, 1) := by decide +kernel
theorem dL_law_381 : decode cL_law 381 = .ok (.iadd, 1) := by decide +kernel
theorem dL_law_382 : decode cL_law 382 = .ok (.iaload, 1) := by decide +kernel
theorem dL_law_383 : decode cL_law 383 = .ok (.aload_n 0, 1) := by decide +kernel
theorem dL_law_384 : decode cL_law 384 = .ok (.iload_n 3, 1) := by decide +kernel
theorem dL_law_385 : decode cL_law 385 = .ok (.iconst 2, 1) := by decide +kernel
theorem dL_law_386 : decode cL_law 386 = .ok (.iadd, 1) := by decide +kernel
theorem dL_law_387 : decode cL_law 387 = .ok (.iaload, 1) := by decide +kernel
theorem dL_law_388 : decode cL_law 388 = .ok (.invokevirtual 44, 3) := by decide +kernel
theorem dL_law_391 : decode cL_law 391 = .ok (.pop, 1) := by decide +kernel
theorem dL_law_392 : decode cL_law 392 = .ok (.goto 739, 3) := by decide +kernel
theorem dL_law_395 : decode cL_law 395 = .ok (.aload_n 1, 1) := by decide +kernel
theorem dL_law_396 : decode cL_law 396 = .ok (.aload_n 0, 1) := by decide +kernel
theorem dL_law_397 : decode cL_law 397 = .ok (.iload_n 3, 1) := by decide +kernel
theorem dL_law_398 : decode cL_law 398 = .ok (.iconst 1, 1) := by decide +kernel
theorem dL_law_399 : decode cL_law 399 = .ok (.iadd, 1) := by decide +kernel
theorem dL_law_400 : decode cL_law 400 = .ok (.iaload, 1) := by decide +kernel
theorem dL_law_401 : decode cL_law 401 = .ok (.aload_n 0, 1) := by decide +kernel
theorem dL_law_402 : decode cL_law 402 = .ok (.iload_n 3, 1) := by decide +kernel
theorem dL_law_403 : decode cL_law 403 = .ok (.iconst 2, 1) := by decide +kernel
theorem dL_law_404 : decode cL_law 404 = .ok (.iadd, 1) := by decide +kernel
theorem dL_law_405 : decode cL_law 405 = .ok (.iaload, 1) := by decide +kernel
theorem dL_law_406 : decode cL_law 406 = .ok (.invokevirtual 45, 3) := by decide +kernel
theorem dL_law_409 : decode cL_law 409 = .ok (.pop, 1) := by decide +kernel
theorem dL_law_410 : decode cL_law 410 = .ok (.aload_n 2, 1) := by decide +kernel
theorem dL_law_411 : decode cL_law 411 = .ok (.aload_n 0, 1) := by decide +kernel
theorem dL_law_412 : decode cL_law 412 = .ok (.iload_n 3, 1) := by decide +kernel
theorem dL_law_413 : decode cL_law 413 = .ok (.iconst 1, 1) := by decide +kernel
theorem dL_law_414 : decode cL_law 414 = .ok (.iadd, 1) := by decide +kernel
theorem dL_law_415 : decode cL_law 415 = .ok (.iaload, 1) := by decide +kernel
theorem dL_law_416 : decode cL_law 416 = .ok (.aload_n 0, 1) := by decide +kernel
theorem dL_law_417 : decode cL_law 417 = .ok (.iload_n 3, 1) := by decide +kernel
theorem dL_law_418 : decode cL_law 418 = .ok (.iconst 2, 1) := by decide +kernel
theorem dL_law_419 : decode cL_law 419 = .ok (.iadd, 1) := by decide +kernel
theorem dL_law_420 : decode cL_law 420 = .ok (.iaload, 1) := by decide +kernel
theorem dL_law_421 : decode cL_law 421 = .ok (.invokevirtual 48, 3) := by decide +kernel
theorem dL_law_424 : decode cL_law 424 = .ok (.pop, 1) := by decide +kernel
theorem dL_law_425 : decode cL_law 425 = .ok (.goto 706, 3) := by decide +kernel
theorem dL_law_428 : decode cL_law 428 = .ok (.aload_n 1, 1) := by decide +kernel
theorem dL_law_429 : decode cL_law 429 = .ok (.aload_n 0, 1) := by decide +kernel
theorem dL_law_430 : decode cL_law 430 = .ok (.iload_n 3, 1) := by decide +kernel
theorem dL_law_431 : decode cL_law 431 = .ok (.iconst 1, 1) := by decide +kernel
theorem dL_law_432 : decode cL_law 432 = .ok (.iadd, 1) := by decide +kernel
theorem dL_law_433 : decode cL_law 433 = .ok (.iaload, 1) := by decide +kernel
theorem dL_law_434 : decode cL_law 434 = .ok (.aload_n 0, 1) := by decide +kernel
theorem dL_law_435 : decode cL_law 435 = .ok (.iload_n 3, 1) := by decide +kernel
theorem dL_law_436 : decode cL_law 436 = .ok (.iconst 2, 1) := by decide +kernel
theorem dL_law_437 : decode cL_law 437 = .ok (.iadd, 1) := by decide +kernel
theorem dL_law_438 : decode cL_law 438 = .ok (.iaload, 1) := by decide +kernel
theorem dL_law_439 : decode cL_law 439 = .ok (.invokevirtual 49, 3) := by decide +kernel
theorem dL_law_442 : decode cL_law 442 = .ok (.pop, 1) := by decide +kernel
theorem dL_law_443 : decode cL_law 443 = .ok (.aload_n 2, 1) := by decide +kernel
theorem dL_law_444 : decode cL_law 444 = .ok (.aload_n 0, 1) := by decide +kernel
theorem dL_law_445 : decode cL_law 445 = .ok (.iload_n 3, 1) := by decide +kernel
theorem dL_law_446 : decode cL_law 446 = .ok (.iconst 1, 1) := by decide +kernel
theorem dL_law_447 : decode cL_law 447 = .ok (.iadd, 1) := by decide +kernel
theorem dL_law_448 : decode cL_law 448 = .ok (.iaload, 1) := by decide +kernel
theorem dL_law_449 : decode cL_law 449 = .ok (.aload_n 0, 1) := by decide +kernel
theorem dL_law_450 : decode cL_law 450 = .ok (.iload_n 3, 1) := by decide +kernel
theorem dL_law_451 : decode cL_law 451 = .ok (.iconst 2, 1) := by decide +kernel
theorem dL_law_452 : decode cL_law 452 = .ok (.iadd, 1) := by decide +kernel
theorem dL_law_453 : decode cL_law 453 = .ok (.iaload, 1) := by decide +kernel
theorem dL_law_454 : decode cL_law 454 = .ok (.invokevirtual 52, 3) := by decide +kernel
theorem dL_law_457 : decode cL_law 457 = .ok (.pop, 1) := by decide +kernel
theorem dL_law_458 : decode cL_law 458 = .ok (.goto 673, 3) := by decide +kernel
theorem dL_law_461 : decode cL_law 461 = .ok (.aload_n 1, 1) := by decide +kernel
theorem dL_law_462 : decode cL_law 462 = .ok (.aload_n 0, 1) := by decide +kernel
theorem dL_law_463 : decode cL_law 463 = .ok (.iload_n 3, 1) := by decide +kernel
theorem dL_law_464 : decode cL_law 464 = .ok (.iconst 1, 1) := by decide +kernel
theorem dL_law_465 : decode cL_law 465 = .ok (.iadd, 1) := by decide +kernel
theorem dL_law_466 : decode cL_law 466 = .ok (.iaload, 1) := by decide +kernel
theorem dL_law_467 : decode cL_law 467 = .ok (.aload_n 0, 1) := by decide +kernel
theorem dL_law_468 : decode cL_law 468 = .ok (.iload_n 3, 1) := by decide +kernel
theorem dL_law_469 : decode cL_law 469 = .ok (.iconst 2, 1) := by decide +kernel
theorem dL_law_470 : decode cL_law 470 = .ok (.iadd, 1) := by decide +kernel
theorem dL_law_471 : decode cL_law 471 = .ok (.iaload, 1) := by decide +kernel
theorem dL_law_472 : decode cL_law 472 = .ok (.aload_n 0, 1) := by decide +kernel
theorem dL_law_473 : decode cL_law 473 = .ok (.iload_n 3, 1) := by decide +kernel
theorem dL_law_474 : decode cL_law 474 = .ok (.iconst 3, 1) := by decide +kernel
theorem dL_law_475 : decode cL_law 475 = .ok (.iadd, 1) := by decide +kernel
theorem dL_law_476 : decode cL_law 476 = .ok (.iaload, 1) := by decide +kernel
theorem dL_law_477 : decode cL_law 477 = .ok (.invokevirtual 53, 3) := by decide +kernel
theorem dL_law_480 : decode cL_law 480 = .ok (.pop, 1) := by decide +kernel
theorem dL_law_481 : decode cL_law 481 = .ok (.aload_n 2, 1) := by decide +kernel
theorem dL_law_482 : decode cL_law 482 = .ok (.aload_n 0, 1) := by decide +kernel
theorem dL_law_483 : decode cL_law 483 = .ok (.iload_n 3, 1) := by decide +kernel
theorem dL_law_484 : decode cL_law 484 = .ok (.iconst 1, 1) := by decide +kernel
theorem dL_law_485 : decode cL_law 485 = .ok (.iadd, 1) := by decide +kernel
theorem dL_law_486 : decode cL_law 486 = .ok (.iaload, 1) := by decide +kernel
theorem dL_law_487 : decode cL_law 487 = .ok (.aload_n 0, 1) := by decide +kernel
theorem dL_law_488 : decode cL_law 488 = .ok (.iload_n 3, 1) := by decide +kernel
theorem dL_law_489 : decode cL_law 489 = .ok (.iconst 2, 1) := by decide +kernel
theorem dL_law_490 : decode cL_law 490 = .ok (.iadd, 1) := by decide +kernel
theorem dL_law_491 : decode cL_law 491 = .ok (.iaload, 1) := by decide +kernel
theorem dL_law_492 : decode cL_law 492 = .ok (.aload_n 0, 1) := by decide +kernel
theorem dL_law_493 : decode cL_law 493 = .ok (.iload_n 3, 1) := by decide +kernel
theorem dL_law_494 : decode cL_law 494 = .ok (.iconst 3, 1) := by decide +kernel
theorem dL_law_495 : decode cL_law 495 = .ok (.iadd, 1) := by decide +kernel
theorem dL_law_496 : decode cL_law 496 = .ok (.iaload, 1) := by decide +kernel
theorem dL_law_497 : decode cL_law 497 = .ok (.invokevirtual 57, 3) := by decide +kernel
theorem dL_law_500 : decode cL_law 500 = .ok (.pop, 1) := by decide +kernel
theorem dL_law_501 : decode cL_law 501 = .ok (.goto 630, 3) := by decide +kernel
theorem dL_law_504 : decode cL_law 504 = .ok (.aload_n 1, 1) := by decide +kernel
theorem dL_law_505 : decode cL_law 505 = .ok (.aload_n 0, 1) := by decide +kernel
theorem dL_law_506 : decode cL_law 506 = .ok (.iload_n 3, 1) := by decide +kernel
theorem dL_law_507 : decode cL_law 507 = .ok (.iconst 1, 1) := by decide +kernel
theorem dL_law_508 : decode cL_law 508 = .ok (.iadd, 1) := by decide +kernel
theorem dL_law_509 : decode cL_law 509 = .ok (.iaload, 1) := by decide +kernel
theorem dL_law_510 : decode cL_law 510 = .ok (.aload_n 0, 1) := by decide +kernel
theorem dL_law_511 : decode cL_law 511 = .ok (.iload_n 3, 1) := by decide +kernel
theorem dL_law_512 : decode cL_law 512 = .ok (.iconst 2, 1) := by decide +kernel
theorem dL_law_513 : decode cL_law 513 = .ok (.iadd, 1) := by decide +kernel
theorem dL_law_514 : decode cL_law 514 = .ok (.iaload, 1) := by decide +kernel
theorem dL_law_515 : decode cL_law 515 = .ok (.invokevirtual 58, 3) := by decide +kernel
theorem dL_law_518 : decode cL_law 518 = .ok (.pop, 1) := by decide +kernel
theorem dL_law_519 : decode cL_law 519 = .ok (.aload_n 2, 1) := by decide +kernel
theorem dL_law_520 : decode cL_law 520 = .ok (.aload_n 0, 1) := by decide +kernel
theorem dL_law_521 : decode cL_law 521 = .ok (.iload_n 3, 1) := by decide +kernel
theorem dL_law_522 : decode cL_law 522 = .ok (.iconst 1, 1) := by decide +kernel
theorem dL_law_523 : decode cL_law 523 = .ok (.iadd, 1) := by decide +kernel
theorem dL_law_524 : decode cL_law 524 = .ok (.iaload, 1) := by decide +kernel
theorem dL_law_525 : decode cL_law 525 = .ok (.aload_n 0, 1) := by decide +kernel
theorem dL_law_526 : decode cL_law 526 = .ok (.iload_n 3, 1) := by decide +kernel
theorem dL_law_527 : decode cL_law 527 = .ok (.iconst 2, 1) := by decide +kernel
theorem dL_law_528 : decode cL_law 528 = .ok (.iadd, 1) := by decide +kernel
theorem dL_law_529 : decode cL_law 529 = .ok (.iaload, 1) := by decide +kernel
theorem dL_law_530 : decode cL_law 530 = .ok (.invokevirtual 61, 3) := by decide +kernel
theorem dL_law_533 : decode cL_law 533 = .ok (.pop, 1) := by decide +kernel
theorem dL_law_534 : decode cL_law 534 = .ok (.goto 597, 3) := by decide +kernel
theorem dL_law_537 : decode cL_law 537 = .ok (.aload_n 1, 1) := by decide +kernel
theorem dL_law_538 : decode cL_law 538 = .ok (.aload_n 0, 1) := by decide +kernel
theorem dL_law_539 : decode cL_law 539 = .ok (.iload_n 3, 1) := by decide +kernel
theorem dL_law_540 : decode cL_law 540 = .ok (.iconst 1, 1) := by decide +kernel
theorem dL_law_541 : decode cL_law 541 = .ok (.iadd, 1) := by decide +kernel
theorem dL_law_542 : decode cL_law 542 = .ok (.iaload, 1) := by decide +kernel
theorem dL_law_543 : decode cL_law 543 = .ok (.aload_n 0, 1) := by decide +kernel
theorem dL_law_544 : decode cL_law 544 = .ok (.iload_n 3, 1) := by decide +kernel
theorem dL_law_545 : decode cL_law 545 = .ok (.iconst 2, 1) := by decide +kernel
theorem dL_law_546 : decode cL_law 546 = .ok (.iadd, 1) := by decide +kernel
theorem dL_law_547 : decode cL_law 547 = .ok (.iaload, 1) := by decide +kernel
theorem dL_law_548 : decode cL_law 548 = .ok (.aload_n 0, 1) := by decide +kernel
theorem dL_law_549 : decode cL_law 549 = .ok (.iload_n 3, 1) := by decide +kernel
theorem dL_law_550 : decode cL_law 550 = .ok (.iconst 3, 1) := by decide +kernel
theorem dL_law_551 : decode cL_law 551 = .ok (.iadd, 1) := by decide +kernel
theorem dL_law_552 : decode cL_law 552 = .ok (.iaload, 1) := by decide +kernel
theorem dL_law_553 : decode cL_law 553 = .ok (.invokevirtual 62, 3) := by decide +kernel
theorem dL_law_556 : decode cL_law 556 = .ok (.pop, 1) := by decide +kernel
theorem dL_law_557 : decode cL_law 557 = .ok (.aload_n 2, 1) := by decide +kernel
theorem dL_law_558 : decode cL_law 558 = .ok (.aload_n 0, 1) := by decide +kernel
theorem dL_law_559 : decode cL_law 559 = .ok (.iload_n 3, 1) := by decide +kernel
theorem dL_law_560 : decode cL_law 560 = .ok (.iconst 1, 1) := by decide +kernel
theorem dL_law_561 : decode cL_law 561 = .ok (.iadd, 1) := by decide +kernel
theorem dL_law_562 : decode cL_law 562 = .ok (.iaload, 1) := by decide +kernel
theorem dL_law_563 : decode cL_law 563 = .ok (.aload_n 0, 1) := by decide +kernel
theorem dL_law_564 : decode cL_law 564 = .ok (.iload_n 3, 1) := by decide +kernel
theorem dL_law_565 : decode cL_law 565 = .ok (.iconst 2, 1) := by decide +kernel
theorem dL_law_566 : decode cL_law 566 = .ok (.iadd, 1) := by decide +kernel
theorem dL_law_567 : decode cL_law 567 = .ok (.iaload, 1) := by decide +kernel
theorem dL_law_568 : decode cL_law 568 = .ok (.aload_n 0, 1) := by decide +kernel
theorem dL_law_569 : decode cL_law 569 = .ok (.iload_n 3, 1) := by decide +kernel
theorem dL_law_570 : decode cL_law 570 = .ok (.iconst 3, 1) := by decide +kernel
theorem dL_law_571 : decode cL_law 571 = .ok (.iadd, 1) := by decide +kernel
theorem dL_law_572 : decode cL_law 572 = .ok (.iaload, 1) := by decide +kernel
theorem dL_law_573 : decode cL_law 573 = .ok (.invokevirtual 65, 3) := by decide +kernel
theorem dL_law_576 : decode cL_law 576 = .ok (.pop, 1) := by decide +kernel
theorem dL_law_577 : decode cL_law 577 = .ok (.goto 554, 3) := by decide +kernel
theorem dL_law_580 : decode cL_law 580 = .ok (.aload_n 1, 1) := by decide +kernel
theorem dL_law_581 : decode cL_law 581 = .ok (.aload_n 0, 1) := by decide +kernel
theorem dL_law_582 : decode cL_law 582 = .ok (.iload_n 3, 1) := by decide +kernel
theorem dL_law_583 : decode cL_law 583 = .ok (.iconst 1, 1) := by decide +kernel
theorem dL_law_584 : decode cL_law 584 = .ok (.iadd, 1) := by decide +kernel
theorem dL_law_585 : decode cL_law 585 = .ok (.iaload, 1) := by decide +kernel
theorem dL_law_586 : decode cL_law 586 = .ok (.aload_n 0, 1) := by decide +kernel
theorem dL_law_587 : decode cL_law 587 = .ok (.iload_n 3, 1) := by decide +kernel
theorem dL_law_588 : decode cL_law 588 = .ok (.iconst 2, 1) := by decide +kernel
theorem dL_law_589 : decode cL_law 589 = .ok (.iadd, 1) := by decide +kernel
theorem dL_law_590 : decode cL_law 590 = .ok (.iaload, 1) := by decide +kernel
theorem dL_law_591 : decode cL_law 591 = .ok (.invokevirtual 66, 3) := by decide +kernel
theorem dL_law_594 : decode cL_law 594 = .ok (.pop, 1) := by decide +kernel
theorem dL_law_595 : decode cL_law 595 = .ok (.aload_n 2, 1) := by decide +kernel
theorem dL_law_596 : decode cL_law 596 = .ok (.aload_n 0, 1) := by decide +kernel
theorem dL_law_597 : decode cL_law 597 = .ok (.iload_n 3, 1) := by decide +kernel
theorem dL_law_598 : decode cL_law 598 = .ok (.iconst 1, 1) := by decide +kernel
theorem dL_law_599 : decode cL_law 599 = .ok (.iadd, 1) := by decide +kernel
theorem dL_law_600 : decode cL_law 600 = .ok (.iaload, 1) := by decide +kernel
theorem dL_law_601 : decode cL_law 601 = .ok (.aload_n 0, 1) := by decide +kernel
theorem dL_law_602 : decode cL_law 602 = .ok (.iload_n 3, 1) := by decide +kernel
theorem dL_law_603 : decode cL_law 603 = .ok (.iconst 2, 1) := by decide +kernel
theorem dL_law_604 : decode cL_law 604 = .ok (.iadd, 1) := by decide +kernel
theorem dL_law_605 : decode cL_law 605 = .ok (.iaload, 1) := by decide +kernel
theorem dL_law_606 : decode cL_law 606 = .ok (.invokevirtual 69, 3) := by decide +kernel
theorem dL_law_609 : decode cL_law 609 = .ok (.pop, 1) := by decide +kernel
theorem dL_law_610 : decode cL_law 610 = .ok (.goto 521, 3) := by decide +kernel
theorem dL_law_613 : decode cL_law 613 = .ok (.aload_n 1, 1) := by decide +kernel
theorem dL_law_614 : decode cL_law 614 = .ok (.aload_n 0, 1) := by decide +kernel
theorem dL_law_615 : decode cL_law 615 = .ok (.iload_n 3, 1) := by decide +kernel
theorem dL_law_616 : decode cL_law 616 = .ok (.iconst 1, 1) := by decide +kernel
theorem dL_law_617 : decode cL_law 617 = .ok (.iadd, 1) := by decide +kernel
theorem dL_law_618 : decode cL_law 618 = .ok (.iaload, 1) := by decide +kernel
theorem dL_law_619 : decode cL_law 619 = .ok (.aload_n 0, 1) := by decide +kernel
theorem dL_law_620 : decode cL_law 620 = .ok (.iload_n 3, 1) := by decide +kernel
theorem dL_law_621 : decode cL_law 621 = .ok (.iconst 2, 1) := by decide +kernel
theorem dL_law_622 : decode cL_law 622 = .ok (.iadd, 1) := by decide +kernel
theorem dL_law_623 : decode cL_law 623 = .ok (.iaload, 1) := by decide +kernel
theorem dL_law_624 : decode cL_law 624 = .ok (.invokevirtual 70, 3) := by decide +kernel
theorem dL_law_627 : decode cL_law 627 = .ok (.pop, 1) := by decide +kernel
theorem dL_law_628 : decode cL_law 628 = .ok (.aload_n 2, 1) := by decide +kernel
theorem dL_law_629 : decode cL_law 629 = .ok (.aload_n 0, 1) := by decide +kernel
theorem dL_law_630 : decode cL_law 630 = .ok (.iload_n 3, 1) := by decide +kernel
theorem dL_law_631 : decode cL_law 631 = .ok (.iconst 1, 1) := by decide +kernel
theorem dL_law_632 : decode cL_law 632 = .ok (.iadd, 1) := by decide +kernel
theorem dL_law_633 : decode cL_law 633 = .ok (.iaload, 1) := by decide +kernel
theorem dL_law_634 : decode cL_law 634 = .ok (.aload_n 0, 1) := by decide +kernel
theorem dL_law_635 : decode cL_law 635 = .ok (.iload_n 3, 1) := by decide +kernel
theorem dL_law_636 : decode cL_law 636 = .ok (.iconst 2, 1) := by decide +kernel
theorem dL_law_637 : decode cL_law 637 = .ok (.iadd, 1) := by decide +kernel
theorem dL_law_638 : decode cL_law 638 = .ok (.iaload, 1) := by decide +kernel
theorem dL_law_639 : decode cL_law 639 = .ok (.invokevirtual 73, 3) := by decide +kernel
theorem dL_law_642 : decode cL_law 642 = .ok (.pop, 1) := by decide +kernel
theorem dL_law_643 : decode cL_law 643 = .ok (.goto 488, 3) := by decide +kernel
theorem dL_law_646 : decode cL_law 646 = .ok (.aload_n 1, 1) := by decide +kernel
theorem dL_law_647 : decode cL_law 647 = .ok (.aload_n 0, 1) := by decide +kernel
theorem dL_law_648 : decode cL_law 648 = .ok (.iload_n 3, 1) := by decide +kernel
theorem dL_law_649 : decode cL_law 649 = .ok (.iconst 1, 1) := by decide +kernel
theorem dL_law_650 : decode cL_law 650 = .ok (.iadd, 1) := by decide +kernel
theorem dL_law_651 : decode cL_law 651 = .ok (.iaload, 1) := by decide +kernel
theorem dL_law_652 : decode cL_law 652 = .ok (.invokevirtual 74, 3) := by decide +kernel
theorem dL_law_655 : decode cL_law 655 = .ok (.pop, 1) := by decide +kernel
theorem dL_law_656 : decode cL_law 656 = .ok (.aload_n 2, 1) := by decide +kernel
theorem dL_law_657 : decode cL_law 657 = .ok (.aload_n 0, 1) := by decide +kernel
theorem dL_law_658 : decode cL_law 658 = .ok (.iload_n 3, 1) := by decide +kernel
theorem dL_law_659 : decode cL_law 659 = .ok (.iconst 1, 1) := by decide +kernel
theorem dL_law_660 : decode cL_law 660 = .ok (.iadd, 1) := by decide +kernel
theorem dL_law_661 : decode cL_law 661 = .ok (.iaload, 1) := by decide +kernel
theorem dL_law_662 : decode cL_law 662 = .ok (.invokevirtual 77, 3) := by decide +kernel
theorem dL_law_665 : decode cL_law 665 = .ok (.pop, 1) := by decide +kernel
theorem dL_law_666 : decode cL_law 666 = .ok (.goto 465, 3) := by decide +kernel
theorem dL_law_669 : decode cL_law 669 = .ok (.aload_n 1, 1) := by decide +kernel
theorem dL_law_670 : decode cL_law 670 = .ok (.aload_n 0, 1) := by decide +kernel
theorem dL_law_671 : decode cL_law 671 = .ok (.iload_n 3, 1) := by decide +kernel
theorem dL_law_672 : decode cL_law 672 = .ok (.iconst 1, 1) := by decide +kernel
theorem dL_law_673 : decode cL_law 673 = .ok (.iadd, 1) := by decide +kernel
theorem dL_law_674 : decode cL_law 674 = .ok (.iaload, 1) := by decide +kernel
theorem dL_law_675 : decode cL_law 675 = .ok (.aload_n 0, 1) := by decide +kernel
theorem dL_law_676 : decode cL_law 676 = .ok (.iload_n 3, 1) := by decide +kernel
theorem dL_law_677 : decode cL_law 677 = .ok (.iconst 2, 1) := by decide +kernel
theorem dL_law_678 : decode cL_law 678 = .ok (.iadd, 1) := by decide +kernel
theorem dL_law_679 : decode cL_law 679 = .ok (.iaload, 1) := by decide +kernel
theorem dL_law_680 : decode cL_law 680 = .ok (.aload_n 0, 1) := by decide +kernel
theorem dL_law_681 : decode cL_law 681 = .ok (.iload_n 3, 1) := by decide +kernel
theorem dL_law_682 : decode cL_law 682 = .ok (.iconst 3, 1) := by decide +kernel
theorem dL_law_683 : decode cL_law 683 = .ok (.iadd, 1) := by decide +kernel
theorem dL_law_684 : decode cL_law 684 = .ok (.iaload, 1) := by decide +kernel
theorem dL_law_685 : decode cL_law 685 = .ok (.aload_n 0, 1) := by decide +kernel
theorem dL_law_686 : decode cL_law 686 = .ok (.iload_n 3, 1) := by decide +kernel
theorem dL_law_687 : decode cL_law 687 = .ok (.iconst 4, 1) := by decide +kernel
theorem dL_law_688 : decode cL_law 688 = .ok (.iadd, 1) := by decide +kernel
theorem dL_law_689 : decode cL_law 689 = .ok (.iaload, 1) := by decide +kernel
theorem dL_law_690 : decode cL_law 690 = .ok (.aload_n 0, 1) := by decide +kernel
theorem dL_law_691 : decode cL_law 691 = .ok (.iload_n 3, 1) := by decide +kernel
theorem dL_law_692 : decode cL_law 692 = .ok (.iconst 5, 1) := by decide +kernel
theorem dL_law_693 : decode cL_law 693 = .ok (.iadd, 1) := by decide +kernel
theorem dL_law_694 : decode cL_law 694 = .ok (.iaload, 1) := by decide +kernel
theorem dL_law_695 : decode cL_law 695 = .ok (.invokevirtual 78, 3) := by decide +kernel
theorem dL_law_698 : decode cL_law 698 = .ok (.pop, 1) := by decide +kernel
theorem dL_law_699 : decode cL_law 699 = .ok (.aload_n 2, 1) := by decide +kernel
theorem dL_law_700 : decode cL_law 700 = .ok (.aload_n 0, 1) := by decide +kernel
theorem dL_law_701 : decode cL_law 701 = .ok (.iload_n 3, 1) := by decide +kernel
theorem dL_law_702 : decode cL_law 702 = .ok (.iconst 1, 1) := by decide +kernel
theorem dL_law_703 : decode cL_law 703 = .ok (.iadd, 1) := by decide +kernel
theorem dL_law_704 : decode cL_law 704 = .ok (.iaload, 1) := by decide +kernel
theorem dL_law_705 : decode cL_law 705 = .ok (.aload_n 0, 1) := by decide +kernel
theorem dL_law_706 : decode cL_law 706 = .ok (.iload_n 3, 1) := by decide +kernel
theorem dL_law_707 : decode cL_law 707 = .ok (.iconst 2, 1) := by decide +kernel
theorem dL_law_708 : decode cL_law 708 = .ok (.iadd, 1) := by decide +kernel
theorem dL_law_709 : decode cL_law 709 = .ok (.iaload, 1) := by decide +kernel
theorem dL_law_710 : decode cL_law 710 = .ok (.aload_n 0, 1) := by decide +kernel
theorem dL_law_711 : decode cL_law 711 = .ok (.iload_n 3, 1) := by decide +kernel
theorem dL_law_712 : decode cL_law 712 = .ok (.iconst 3, 1) := by decide +kernel
theorem dL_law_713 : decode cL_law 713 = .ok (.iadd, 1) := by decide +kernel
theorem dL_law_714 : decode cL_law 714 = .ok (.iaload, 1) := by decide +kernel
theorem dL_law_715 : decode cL_law 715 = .ok (.aload_n 0, 1) := by decide +kernel
theorem dL_law_716 : decode cL_law 716 = .ok (.iload_n 3, 1) := by decide +kernel
theorem dL_law_717 : decode cL_law 717 = .ok (.iconst 4, 1) := by decide +kernel
theorem dL_law_718 : decode cL_law 718 = .ok (.iadd, 1) := by decide +kernel
theorem dL_law_719 : decode cL_law 719 = .ok (.iaload, 1) := by decide +kernel
theorem dL_law_720 : decode cL_law 720 = .ok (.aload_n 0, 1) := by decide +kernel
theorem dL_law_721 : decode cL_law 721 = .ok (.iload_n 3, 1) := by decide +kernel
theorem dL_law_722 : decode cL_law 722 = .ok (.iconst 5, 1) := by decide +kernel
theorem dL_law_723 : decode cL_law 723 = .ok (.iadd, 1) := by decide +kernel
theorem dL_law_724 : decode cL_law 724 = .ok (.iaload, 1) := by decide +kernel
theorem dL_law_725 : decode cL_law 725 = .ok (.invokevirtual 81, 3) := by decide +kernel
theorem dL_law_728 : decode cL_law 728 = .ok (.pop, 1) := by decide +kernel
theorem dL_law_729 : decode cL_law 729 = .ok (.goto 402, 3) := by decide +kernel
theorem dL_law_732 : decode cL_law 732 = .ok (.aload_n 1, 1) := by decide +kernel
theorem dL_law_733 : decode cL_law 733 = .ok (.aload_n 0, 1) := by decide +kernel
theorem dL_law_734 : decode cL_law 734 = .ok (.iload_n 3, 1) := by decide +kernel
theorem dL_law_735 : decode cL_law 735 = .ok (.iconst 1, 1) := by decide +kernel
theorem dL_law_736 : decode cL_law 736 = .ok (.iadd, 1) := by decide +kernel
theorem dL_law_737 : decode cL_law 737 = .ok (.iaload, 1) := by decide +kernel
theorem dL_law_738 : decode cL_law 738 = .ok (.aload_n 0, 1) := by decide +kernel
theorem dL_law_739 : decode cL_law 739 = .ok (.iload_n 3, 1) := by decide +kernel
theorem dL_law_740 : decode cL_law 740 = .ok (.iconst 2, 1) := by decide +kernel
theorem dL_law_741 : decode cL_law 741 = .ok (.iadd, 1) := by decide +kernel
theorem dL_law_742 : decode cL_law 742 = .ok (.iaload, 1) := by decide +kernel
theorem dL_law_743 : decode cL_law 743 = .ok (.aload_n 0, 1) := by decide +kernel
theorem dL_law_744 : decode cL_law 744 = .ok (.iload_n 3, 1) := by decide +kernel
theorem dL_law_745 : decode cL_law 745 = .ok (.iconst 3, 1) := by decide +kernel
theorem dL_law_746 : decode cL_law 746 = .ok (.iadd, 1) := by decide +kernel
theorem dL_law_747 : decode cL_law 747 = .ok (.iaload, 1) := by decide +kernel
theorem dL_law_748 : decode cL_law 748 = .ok (.invokevirtual 82, 3) := by decide +kernel
theorem dL_law_751 : decode cL_law 751 = .ok (.pop, 1) := by decide +kernel
theorem dL_law_752 : decode cL_law 752 = .ok (.aload_n 2, 1) := by decide +kernel
theorem dL_law_753 : decode cL_law 753 = .ok (.aload_n 0, 1) := by decide +kernel
theorem dL_law_754 : decode cL_law 754 = .ok (.iload_n 3, 1) := by decide +kernel
theorem dL_law_755 : decode cL_law 755 = .ok (.iconst 1, 1) := by decide +kernel
theorem dL_law_756 : decode cL_law 756 = .ok (.iadd, 1) := by decide +kernel
theorem dL_law_757 : decode cL_law 757 = .ok (.iaload, 1) := by decide +kernel
theorem dL_law_758 : decode cL_law 758 = .ok (.aload_n 0, 1) := by decide +kernel
theorem dL_law_759 : decode cL_law 759 = .ok (.iload_n 3, 1) := by decide +kernel
theorem dL_law_760 : decode cL_law 760 = .ok (.iconst 2, 1) := by decide +kernel
theorem dL_law_761 : decode cL_law 761 = .ok (.iadd, 1) := by decide +kernel
theorem dL_law_762 : decode cL_law 762 = .ok (.iaload, 1) := by decide +kernel
theorem dL_law_763 : decode cL_law 763 = .ok (.aload_n 0, 1) := by decide +kernel
theorem dL_law_764 : decode cL_law 764 = .ok (.iload_n 3, 1) := by decide +kernel
theorem dL_law_765 : decode cL_law 765 = .ok (.iconst 3, 1) := by decide +kernel
theorem dL_law_766 : decode cL_law 766 = .ok (.iadd, 1) := by decide +kernel
theorem dL_law_767 : decode cL_law 767 = .ok (.iaload, 1) := by decide +kernel
theorem dL_law_768 : decode cL_law 768 = .ok (.invokevirtual 85, 3) := by decide +kernel
theorem dL_law_771 : decode cL_law 771 = .ok (.pop, 1) := by decide +kernel
theorem dL_law_772 : decode cL_law 772 = .ok (.goto 359, 3) := by decide +kernel
theorem dL_law_775 : decode cL_law 775 = .ok (.aload_n 1, 1) := by decide +kernel
theorem dL_law_776 : decode cL_law 776 = .ok (.aload_n 0, 1) := by decide +kernel
theorem dL_law_777 : decode cL_law 777 = .ok (.iload_n 3, 1) := by decide +kernel
theorem dL_law_778 : decode cL_law 778 = .ok (.iconst 1, 1) := by decide +kernel
theorem dL_law_779 : decode cL_law 779 = .ok (.iadd, 1) := by decide +kernel
theorem dL_law_780 : decode cL_law 780 = .ok (.iaload, 1) := by decide +kernel
theorem dL_law_781 : decode cL_law 781 = .ok (.aload_n 0, 1) := by decide +kernel
theorem dL_law_782 : decode cL_law 782 = .ok (.iload_n 3, 1) := by decide +kernel
theorem dL_law_783 : decode cL_law 783 = .ok (.iconst 2, 1) := by decide +kernel
theorem dL_law_784 : decode cL_law 784 = .ok (.iadd, 1) := by decide +kernel
theorem dL_law_785 : decode cL_law 785 = .ok (.iaload, 1) := by decide +kernel
theorem dL_law_786 : decode cL_law 786 = .ok (.aload_n 0, 1) := by decide +kernel
theorem dL_law_787 : decode cL_law 787 = .ok (.iload_n 3, 1) := by decide +kernel
theorem dL_law_788 : decode cL_law 788 = .ok (.iconst 3, 1) := by decide +kernel
theorem dL_law_789 : decode cL_law 789 = .ok (.iadd, 1) := by decide +kernel
theorem dL_law_790 : decode cL_law 790 = .ok (.iaload, 1) := by decide +kernel
theorem dL_law_791 : decode cL_law 791 = .ok (.aload_n 0, 1) := by decide +kernel
theorem dL_law_792 : decode cL_law 792 = .ok (.iload_n 3, 1) := by decide +kernel
theorem dL_law_793 : decode cL_law 793 = .ok (.iconst 4, 1) := by decide +kernel
theorem dL_law_794 : decode cL_law 794 = .ok (.iadd, 1) := by decide +kernel
theorem dL_law_795 : decode cL_law 795 = .ok (.iaload, 1) := by decide +kernel
theorem dL_law_796 : decode cL_law 796 = .ok (.aload_n 0, 1) := by decide +kernel
theorem dL_law_797 : decode cL_law 797 = .ok (.iload_n 3, 1) := by decide +kernel
theorem dL_law_798 : decode cL_law 798 = .ok (.iconst 5, 1) := by decide +kernel
theorem dL_law_799 : decode cL_law 799 = .ok (.iadd, 1) := by decide +kernel
theorem dL_law_800 : decode cL_law 800 = .ok (.iaload, 1) := by decide +kernel
theorem dL_law_801 : decode cL_law 801 = .ok (.invokevirtual 86, 3) := by decide +kernel
theorem dL_law_804 : decode cL_law 804 = .ok (.pop, 1) := by decide +kernel
theorem dL_law_805 : decode cL_law 805 = .ok (.aload_n 2, 1) := by decide +kernel
theorem dL_law_806 : decode cL_law 806 = .ok (.aload_n 0, 1) := by decide +kernel
theorem dL_law_807 : decode cL_law 807 = .ok (.iload_n 3, 1) := by decide +kernel
theorem dL_law_808 : decode cL_law 808 = .ok (.iconst 1, 1) := by decide +kernel
theorem dL_law_809 : decode cL_law 809 = .ok (.iadd, 1) := by decide +kernel
theorem dL_law_810 : decode cL_law 810 = .ok (.iaload, 1) := by decide +kernel
theorem dL_law_811 : decode cL_law 811 = .ok (.aload_n 0, 1) := by decide +kernel
theorem dL_law_812 : decode cL_law 812 = .ok (.iload_n 3, 1) := by decide +kernel
theorem dL_law_813 : decode cL_law 813 = .ok (.iconst 2, 1) := by decide +kernel
theorem dL_law_814 : decode cL_law 814 = .ok (.iadd, 1) := by decide +kernel
theorem dL_law_815 : decode cL_law 815 = .ok (.iaload, 1) := by decide +kernel
theorem dL_law_816 : decode cL_law 816 = .ok (.aload_n 0, 1) := by decide +kernel
theorem dL_law_817 : decode cL_law 817 = .ok (.iload_n 3, 1) := by decide +kernel
theorem dL_law_818 : decode cL_law 818 = .ok (.iconst 3, 1) := by decide +kernel
theorem dL_law_819 : decode cL_law 819 = .ok (.iadd, 1) := by decide +kernel
theorem dL_law_820 : decode cL_law 820 = .ok (.iaload, 1) := by decide +kernel
theorem dL_law_821 : decode cL_law 821 = .ok (.aload_n 0, 1) := by decide +kernel
theorem dL_law_822 : decode cL_law 822 = .ok (.iload_n 3, 1) := by decide +kernel
theorem dL_law_823 : decode cL_law 823 = .ok (.iconst 4, 1) := by decide +kernel
theorem dL_law_824 : decode cL_law 824 = .ok (.iadd, 1) := by decide +kernel
theorem dL_law_825 : decode cL_law 825 = .ok (.iaload, 1) := by decide +kernel
theorem dL_law_826 : decode cL_law 826 = .ok (.aload_n 0, 1) := by decide +kernel
theorem dL_law_827 : decode cL_law 827 = .ok (.iload_n 3, 1) := by decide +kernel
theorem dL_law_828 : decode cL_law 828 = .ok (.iconst 5, 1) := by decide +kernel
theorem dL_law_829 : decode cL_law 829 = .ok (.iadd, 1) := by decide +kernel
theorem dL_law_830 : decode cL_law 830 = .ok (.iaload, 1) := by decide +kernel
theorem dL_law_831 : decode cL_law 831 = .ok (.invokevirtual 89, 3) := by decide +kernel
theorem dL_law_834 : decode cL_law 834 = .ok (.pop, 1) := by decide +kernel
theorem dL_law_835 : decode cL_law 835 = .ok (.goto 296, 3) := by decide +kernel
theorem dL_law_838 : decode cL_law 838 = .ok (.aload_n 1, 1) := by decide +kernel
theorem dL_law_839 : decode cL_law 839 = .ok (.aload_n 0, 1) := by decide +kernel
theorem dL_law_840 : decode cL_law 840 = .ok (.iload_n 3, 1) := by decide +kernel
theorem dL_law_841 : decode cL_law 841 = .ok (.iconst 1, 1) := by decide +kernel
theorem dL_law_842 : decode cL_law 842 = .ok (.iadd, 1) := by decide +kernel
theorem dL_law_843 : decode cL_law 843 = .ok (.iaload, 1) := by decide +kernel
theorem dL_law_844 : decode cL_law 844 = .ok (.invokevirtual 90, 3) := by decide +kernel
theorem dL_law_847 : decode cL_law 847 = .ok (.pop, 1) := by decide +kernel
theorem dL_law_848 : decode cL_law 848 = .ok (.aload_n 2, 1) := by decide +kernel
theorem dL_law_849 : decode cL_law 849 = .ok (.aload_n 0, 1) := by decide +kernel
theorem dL_law_850 : decode cL_law 850 = .ok (.iload_n 3, 1) := by decide +kernel
theorem dL_law_851 : decode cL_law 851 = .ok (.iconst 1, 1) := by decide +kernel
theorem dL_law_852 : decode cL_law 852 = .ok (.iadd, 1) := by decide +kernel
theorem dL_law_853 : decode cL_law 853 = .ok (.iaload, 1) := by decide +kernel
theorem dL_law_854 : decode cL_law 854 = .ok (.invokevirtual 93, 3) := by decide +kernel
theorem dL_law_857 : decode cL_law 857 = .ok (.pop, 1) := by decide +kernel
theorem dL_law_858 : decode cL_law 858 = .ok (.goto 273, 3) := by decide +kernel
theorem dL_law_861 : decode cL_law 861 = .ok (.aload_n 1, 1) := by decide +kernel
theorem dL_law_862 : decode cL_law 862 = .ok (.aload_n 0, 1) := by decide +kernel
theorem dL_law_863 : decode cL_law 863 = .ok (.iload_n 3, 1) := by decide +kernel
theorem dL_law_864 : decode cL_law 864 = .ok (.iconst 1, 1) := by decide +kernel
theorem dL_law_865 : decode cL_law 865 = .ok (.iadd, 1) := by decide +kernel
theorem dL_law_866 : decode cL_law 866 = .ok (.iaload, 1) := by decide +kernel
theorem dL_law_867 : decode cL_law 867 = .ok (.aload_n 0, 1) := by decide +kernel
theorem dL_law_868 : decode cL_law 868 = .ok (.iload_n 3, 1) := by decide +kernel
theorem dL_law_869 : decode cL_law 869 = .ok (.iconst 2, 1) := by decide +kernel
theorem dL_law_870 : decode cL_law 870 = .ok (.iadd, 1) := by decide +kernel
theorem dL_law_871 : decode cL_law 871 = .ok (.iaload, 1) := by decide +kernel
theorem dL_law_872 : decode cL_law 872 = .ok (.invokevirtual 94, 3) := by decide +kernel
theorem dL_law_875 : decode cL_law 875 = .ok (.pop, 1) := by decide +kernel
theorem dL_law_876 : decode cL_law 876 = .ok (.aload_n 2, 1) := by decide +kernel
theorem dL_law_877 : decode cL_law 877 = .ok (.aload_n 0, 1) := by decide +kernel
theorem dL_law_878 : decode cL_law 878 = .ok (.iload_n 3, 1) := by decide +kernel
theorem dL_law_879 : decode cL_law 879 = .ok (.iconst 1, 1) := by decide +kernel
theorem dL_law_880 : decode cL_law 880 = .ok (.iadd, 1) := by decide +kernel
theorem dL_law_881 : decode cL_law 881 = .ok (.iaload, 1) := by decide +kernel
theorem dL_law_882 : decode cL_law 882 = .ok (.aload_n 0, 1) := by decide +kernel
theorem dL_law_883 : decode cL_law 883 = .ok (.iload_n 3, 1) := by decide +kernel
theorem dL_law_884 : decode cL_law 884 = .ok (.iconst 2, 1) := by decide +kernel
theorem dL_law_885 : decode cL_law 885 = .ok (.iadd, 1) := by decide +kernel
theorem dL_law_886 : decode cL_law 886 = .ok (.iaload, 1) := by decide +kernel
theorem dL_law_887 : decode cL_law 887 = .ok (.invokevirtual 97, 3) := by decide +kernel
theorem dL_law_890 : decode cL_law 890 = .ok (.pop, 1) := by decide +kernel
theorem dL_law_891 : decode cL_law 891 = .ok (.goto 240, 3) := by decide +kernel
theorem dL_law_894 : decode cL_law 894 = .ok (.aload_n 1, 1) := by decide +kernel
theorem dL_law_895 : decode cL_law 895 = .ok (.aload_n 0, 1) := by decide +kernel
theorem dL_law_896 : decode cL_law 896 = .ok (.iload_n 3, 1) := by decide +kernel
theorem dL_law_897 : decode cL_law 897 = .ok (.iconst 1, 1) := by decide +kernel
theorem dL_law_898 : decode cL_law 898 = .ok (.iadd, 1) := by decide +kernel
theorem dL_law_899 : decode cL_law 899 = .ok (.iaload, 1) := by decide +kernel
theorem dL_law_900 : decode cL_law 900 = .ok (.aload_n 0, 1) := by decide +kernel
theorem dL_law_901 : decode cL_law 901 = .ok (.iload_n 3, 1) := by decide +kernel
theorem dL_law_902 : decode cL_law 902 = .ok (.iconst 2, 1) := by decide +kernel
theorem dL_law_903 : decode cL_law 903 = .ok (.iadd, 1) := by decide +kernel
theorem dL_law_904 : decode cL_law 904 = .ok (.iaload, 1) := by decide +kernel
theorem dL_law_905 : decode cL_law 905 = .ok (.aload_n 0, 1) := by decide +kernel
theorem dL_law_906 : decode cL_law 906 = .ok (.iload_n 3, 1) := by decide +kernel
theorem dL_law_907 : decode cL_law 907 = .ok (.iconst 3, 1) := by decide +kernel
theorem dL_law_908 : decode cL_law 908 = .ok (.iadd, 1) := by decide +kernel
theorem dL_law_909 : decode cL_law 909 = .ok (.iaload, 1) := by decide +kernel
theorem dL_law_910 : decode cL_law 910 = .ok (.invokevirtual 98, 3) := by decide +kernel
theorem dL_law_913 : decode cL_law 913 = .ok (.pop, 1) := by decide +kernel
theorem dL_law_914 : decode cL_law 914 = .ok (.aload_n 2, 1) := by decide +kernel
theorem dL_law_915 : decode cL_law 915 = .ok (.aload_n 0, 1) := by decide +kernel
theorem dL_law_916 : decode cL_law 916 = .ok (.iload_n 3, 1) := by decide +kernel
theorem dL_law_917 : decode cL_law 917 = .ok (.iconst 1, 1) := by decide +kernel
theorem dL_law_918 : decode cL_law 918 = .ok (.iadd, 1) := by decide +kernel
theorem dL_law_919 : decode cL_law 919 = .ok (.iaload, 1) := by decide +kernel
theorem dL_law_920 : decode cL_law 920 = .ok (.aload_n 0, 1) := by decide +kernel
theorem dL_law_921 : decode cL_law 921 = .ok (.iload_n 3, 1) := by decide +kernel
theorem dL_law_922 : decode cL_law 922 = .ok (.iconst 2, 1) := by decide +kernel
theorem dL_law_923 : decode cL_law 923 = .ok (.iadd, 1) := by decide +kernel
theorem dL_law_924 : decode cL_law 924 = .ok (.iaload, 1) := by decide +kernel
theorem dL_law_925 : decode cL_law 925 = .ok (.aload_n 0, 1) := by decide +kernel
theorem dL_law_926 : decode cL_law 926 = .ok (.iload_n 3, 1) := by decide +kernel
theorem dL_law_927 : decode cL_law 927 = .ok (.iconst 3, 1) := by decide +kernel
theorem dL_law_928 : decode cL_law 928 = .ok (.iadd, 1) := by decide +kernel
theorem dL_law_929 : decode cL_law 929 = .ok (.iaload, 1) := by decide +kernel
theorem dL_law_930 : decode cL_law 930 = .ok (.invokevirtual 101, 3) := by decide +kernel
theorem dL_law_933 : decode cL_law 933 = .ok (.pop, 1) := by decide +kernel
theorem dL_law_934 : decode cL_law 934 = .ok (.goto 197, 3) := by decide +kernel
theorem dL_law_937 : decode cL_law 937 = .ok (.aload_n 1, 1) := by decide +kernel
theorem dL_law_938 : decode cL_law 938 = .ok (.aload_n 0, 1) := by decide +kernel
theorem dL_law_939 : decode cL_law 939 = .ok (.iload_n 3, 1) := by decide +kernel
theorem dL_law_940 : decode cL_law 940 = .ok (.iconst 1, 1) := by decide +kernel
theorem dL_law_941 : decode cL_law 941 = .ok (.iadd, 1) := by decide +kernel
theorem dL_law_942 : decode cL_law 942 = .ok (.iaload, 1) := by decide +kernel
theorem dL_law_943 : decode cL_law 943 = .ok (.aload_n 0, 1) := by decide +kernel
theorem dL_law_944 : decode cL_law 944 = .ok (.iload_n 3, 1) := by decide +kernel
theorem dL_law_945 : decode cL_law 945 = .ok (.iconst 2, 1) := by decide +kernel
theorem dL_law_946 : decode cL_law 946 = .ok (.iadd, 1) := by decide +kernel
theorem dL_law_947 : decode cL_law 947 = .ok (.iaload, 1) := by decide +kernel
theorem dL_law_948 : decode cL_law 948 = .ok (.invokevirtual 102, 3) := by decide +kernel
theorem dL_law_951 : decode cL_law 951 = .ok (.pop, 1) := by decide +kernel
theorem dL_law_952 : decode cL_law 952 = .ok (.aload_n 2, 1) := by decide +kernel
theorem dL_law_953 : decode cL_law 953 = .ok (.aload_n 0, 1) := by decide +kernel
theorem dL_law_954 : decode cL_law 954 = .ok (.iload_n 3, 1) := by decide +kernel
theorem dL_law_955 : decode cL_law 955 = .ok (.iconst 1, 1) := by decide +kernel
theorem dL_law_956 : decode cL_law 956 = .ok (.iadd, 1) := by decide +kernel
theorem dL_law_957 : decode cL_law 957 = .ok (.iaload, 1) := by decide +kernel
theorem dL_law_958 : decode cL_law 958 = .ok (.aload_n 0, 1) := by decide +kernel
theorem dL_law_959 : decode cL_law 959 = .ok (.iload_n 3, 1) := by decide +kernel
theorem dL_law_960 : decode cL_law 960 = .ok (.iconst 2, 1) := by decide +kernel
theorem dL_law_961 : decode cL_law 961 = .ok (.iadd, 1) := by decide +kernel
theorem dL_law_962 : decode cL_law 962 = .ok (.iaload, 1) := by decide +kernel
theorem dL_law_963 : decode cL_law 963 = .ok (.invokevirtual 105, 3) := by decide +kernel
theorem dL_law_966 : decode cL_law 966 = .ok (.pop, 1) := by decide +kernel
theorem dL_law_967 : decode cL_law 967 = .ok (.goto 164, 3) := by decide +kernel
theorem dL_law_970 : decode cL_law 970 = .ok (.aload_n 1, 1) := by decide +kernel
theorem dL_law_971 : decode cL_law 971 = .ok (.aload_n 0, 1) := by decide +kernel
theorem dL_law_972 : decode cL_law 972 = .ok (.iload_n 3, 1) := by decide +kernel
theorem dL_law_973 : decode cL_law 973 = .ok (.iconst 1, 1) := by decide +kernel
theorem dL_law_974 : decode cL_law 974 = .ok (.iadd, 1) := by decide +kernel
theorem dL_law_975 : decode cL_law 975 = .ok (.iaload, 1) := by decide +kernel
theorem dL_law_976 : decode cL_law 976 = .ok (.aload_n 0, 1) := by decide +kernel
theorem dL_law_977 : decode cL_law 977 = .ok (.iload_n 3, 1) := by decide +kernel
theorem dL_law_978 : decode cL_law 978 = .ok (.iconst 2, 1) := by decide +kernel
theorem dL_law_979 : decode cL_law 979 = .ok (.iadd, 1) := by decide +kernel
theorem dL_law_980 : decode cL_law 980 = .ok (.iaload, 1) := by decide +kernel
theorem dL_law_981 : decode cL_law 981 = .ok (.invokevirtual 106, 3) := by decide +kernel
theorem dL_law_984 : decode cL_law 984 = .ok (.pop, 1) := by decide +kernel
theorem dL_law_985 : decode cL_law 985 = .ok (.aload_n 2, 1) := by decide +kernel
theorem dL_law_986 : decode cL_law 986 = .ok (.aload_n 0, 1) := by decide +kernel
theorem dL_law_987 : decode cL_law 987 = .ok (.iload_n 3, 1) := by decide +kernel
theorem dL_law_988 : decode cL_law 988 = .ok (.iconst 1, 1) := by decide +kernel
theorem dL_law_989 : decode cL_law 989 = .ok (.iadd, 1) := by decide +kernel
theorem dL_law_990 : decode cL_law 990 = .ok (.iaload, 1) := by decide +kernel
theorem dL_law_991 : decode cL_law 991 = .ok (.aload_n 0, 1) := by decide +kernel
theorem dL_law_992 : decode cL_law 992 = .ok (.iload_n 3, 1) := by decide +kernel
theorem dL_law_993 : decode cL_law 993 = .ok (.iconst 2, 1) := by decide +kernel
theorem dL_law_994 : decode cL_law 994 = .ok (.iadd, 1) := by decide +kernel
theorem dL_law_995 : decode cL_law 995 = .ok (.iaload, 1) := by decide +kernel
theorem dL_law_996 : decode cL_law 996 = .ok (.invokevirtual 109, 3) := by decide +kernel
theorem dL_law_999 : decode cL_law 999 = .ok (.pop, 1) := by decide +kernel
theorem dL_law_1000 : decode cL_law 1000 = .ok (.goto 131, 3) := by decide +kernel
theorem dL_law_1003 : decode cL_law 1003 = .ok (.aload_n 1, 1) := by decide +kernel
theorem dL_law_1004 : decode cL_law 1004 = .ok (.aload_n 0, 1) := by decide +kernel
theorem dL_law_1005 : decode cL_law 1005 = .ok (.iload_n 3, 1) := by decide +kernel
theorem dL_law_1006 : decode cL_law 1006 = .ok (.iconst 1, 1) := by decide +kernel
theorem dL_law_1007 : decode cL_law 1007 = .ok (.iadd, 1) := by decide +kernel
theorem dL_law_1008 : decode cL_law 1008 = .ok (.iaload, 1) := by decide +kernel
theorem dL_law_1009 : decode cL_law 1009 = .ok (.aload_n 0, 1) := by decide +kernel
theorem dL_law_1010 : decode cL_law 1010 = .ok (.iload_n 3, 1) := by decide +kernel
theorem dL_law_1011 : decode cL_law 1011 = .ok (.iconst 2, 1) := by decide +kernel
theorem dL_law_1012 : decode cL_law 1012 = .ok (.iadd, 1) := by decide +kernel
theorem dL_law_1013 : decode cL_law 1013 = .ok (.iaload, 1) := by decide +kernel
theorem dL_law_1014 : decode cL_law 1014 = .ok (.invokevirtual 110, 3) := by decide +kernel
theorem dL_law_1017 : decode cL_law 1017 = .ok (.pop, 1) := by decide +kernel
theorem dL_law_1018 : decode cL_law 1018 = .ok (.aload_n 2, 1) := by decide +kernel
theorem dL_law_1019 : decode cL_law 1019 = .ok (.aload_n 0, 1) := by decide +kernel
theorem dL_law_1020 : decode cL_law 1020 = .ok (.iload_n 3, 1) := by decide +kernel
theorem dL_law_1021 : decode cL_law 1021 = .ok (.iconst 1, 1) := by decide +kernel
theorem dL_law_1022 : decode cL_law 1022 = .ok (.iadd, 1) := by decide +kernel
theorem dL_law_1023 : decode cL_law 1023 = .ok (.iaload, 1) := by decide +kernel
theorem dL_law_1024 : decode cL_law 1024 = .ok (.aload_n 0, 1) := by decide +kernel
theorem dL_law_1025 : decode cL_law 1025 = .ok (.iload_n 3, 1) := by decide +kernel
theorem dL_law_1026 : decode cL_law 1026 = .ok (.iconst 2, 1) := by decide +kernel
theorem dL_law_1027 : decode cL_law 1027 = .ok (.iadd, 1) := by decide +kernel
theorem dL_law_1028 : decode cL_law 1028 = .ok (.iaload, 1) := by decide +kernel
theorem dL_law_1029 : decode cL_law 1029 = .ok (.invokevirtual 113, 3) := by decide +kernel
theorem dL_law_1032 : decode cL_law 1032 = .ok (.pop, 1) := by decide +kernel
theorem dL_law_1033 : decode cL_law 1033 = .ok (.goto 98, 3) := by decide +kernel
theorem dL_law_1036 : decode cL_law 1036 = .ok (.aload_n 1, 1) := by decide +kernel
theorem dL_law_1037 : decode cL_law 1037 = .ok (.aload_n 0, 1) := by decide +kernel
theorem dL_law_1038 : decode cL_law 1038 = .ok (.iload_n 3, 1) := by decide +kernel
theorem dL_law_1039 : decode cL_law 1039 = .ok (.iconst 1, 1) := by decide +kernel
theorem dL_law_1040 : decode cL_law 1040 = .ok (.iadd, 1) := by decide +kernel
theorem dL_law_1041 : decode cL_law 1041 = .ok (.iaload, 1) := by decide +kernel
theorem dL_law_1042 : decode cL_law 1042 = .ok (.invokevirtual 114, 3) := by decide +kernel
theorem dL_law_1045 : decode cL_law 1045 = .ok (.pop, 1) := by decide +kernel
theorem dL_law_1046 : decode cL_law 1046 = .ok (.aload_n 2, 1) := by decide +kernel
theorem dL_law_1047 : decode cL_law 1047 = .ok (.aload_n 0, 1) := by decide +kernel
theorem dL_law_1048 : decode cL_law 1048 = .ok (.iload_n 3, 1) := by decide +kernel
theorem dL_law_1049 : decode cL_law 1049 = .ok (.iconst 1, 1) := by decide +kernel
theorem dL_law_1050 : decode cL_law 1050 = .ok (.iadd, 1) := by decide +kernel
theorem dL_law_1051 : decode cL_law 1051 = .ok (.iaload, 1) := by decide +kernel
theorem dL_law_1052 : decode cL_law 1052 = .ok (.invokevirtual 118, 3) := by decide +kernel
theorem dL_law_1055 : decode cL_law 1055 = .ok (.pop, 1) := by decide +kernel
theorem dL_law_1056 : decode cL_law 1056 = .ok (.goto 75, 3) := by decide +kernel
theorem dL_law_1059 : decode cL_law 1059 = .ok (.aload_n 1, 1) := by decide +kernel
theorem dL_law_1060 : decode cL_law 1060 = .ok (.invokevirtual 119, 3) := by decide +kernel
theorem dL_law_1063 : decode cL_law 1063 = .ok (.aload_n 2, 1) := by decide +kernel
theorem dL_law_1064 : decode cL_law 1064 = .ok (.invokevirtual 123, 3) := by decide +kernel
theorem dL_law_1067 : decode cL_law 1067 = .ok (.if_icmp .eq 64, 3) := by decide +kernel
theorem dL_law_1070 : decode cL_law 1070 = .ok (.iconst 0, 1) := by decide +kernel
theorem dL_law_1071 : decode cL_law 1071 = .ok (.ireturn, 1) := by decide +kernel
theorem dL_law_1072 : decode cL_law 1072 = .ok (.aload_n 1, 1) := by decide +kernel
theorem dL_law_1073 : decode cL_law 1073 = .ok (.invokevirtual 124, 3) := by decide +kernel
theorem dL_law_1076 : decode cL_law 1076 = .ok (.pop, 1) := by decide +kernel
theorem dL_law_1077 : decode cL_law 1077 = .ok (.aload_n 2, 1) := by decide +kernel
theorem dL_law_1078 : decode cL_law 1078 = .ok (.invokevirtual 128, 3) := by decide +kernel
theorem dL_law_1081 : decode cL_law 1081 = .ok (.pop, 1) := by decide +kernel
theorem dL_law_1082 : decode cL_law 1082 = .ok (.goto 49, 3) := by decide +kernel
theorem dL_law_1085 : decode cL_law 1085 = .ok (.aload_n 1, 1) := by decide +kernel
theorem dL_law_1086 : decode cL_law 1086 = .ok (.aload_n 0, 1) := by decide +kernel
theorem dL_law_1087 : decode cL_law 1087 = .ok (.iload_n 3, 1) := by decide +kernel
theorem dL_law_1088 : decode cL_law 1088 = .ok (.iconst 1, 1) := by decide +kernel
theorem dL_law_1089 : decode cL_law 1089 = .ok (.iadd, 1) := by decide +kernel
theorem dL_law_1090 : decode cL_law 1090 = .ok (.iaload, 1) := by decide +kernel
theorem dL_law_1091 : decode cL_law 1091 = .ok (.invokevirtual 129, 3) := by decide +kernel
theorem dL_law_1094 : decode cL_law 1094 = .ok (.pop, 1) := by decide +kernel
theorem dL_law_1095 : decode cL_law 1095 = .ok (.aload_n 2, 1) := by decide +kernel
theorem dL_law_1096 : decode cL_law 1096 = .ok (.aload_n 0, 1) := by decide +kernel
theorem dL_law_1097 : decode cL_law 1097 = .ok (.iload_n 3, 1) := by decide +kernel
theorem dL_law_1098 : decode cL_law 1098 = .ok (.iconst 1, 1) := by decide +kernel
theorem dL_law_1099 : decode cL_law 1099 = .ok (.iadd, 1) := by decide +kernel
theorem dL_law_1100 : decode cL_law 1100 = .ok (.iaload, 1) := by decide +kernel
theorem dL_law_1101 : decode cL_law 1101 = .ok (.invokevirtual 132, 3) := by decide +kernel
theorem dL_law_1104 : decode cL_law 1104 = .ok (.pop, 1) := by decide +kernel
theorem dL_law_1105 : decode cL_law 1105 = .ok (.goto 26, 3) := by decide +kernel
theorem dL_law_1108 : decode cL_law 1108 = .ok (.aload_n 1, 1) := by decide +kernel
theorem dL_law_1109 : decode cL_law 1109 = .ok (.aload_n 0, 1) := by decide +kernel
theorem dL_law_1110 : decode cL_law 1110 = .ok (.iload_n 3, 1) := by decide +kernel
theorem dL_law_1111 : decode cL_law 1111 = .ok (.iconst 1, 1) := by decide +kernel
theorem dL_law_1112 : decode cL_law 1112 = .ok (.iadd, 1) := by decide +kernel
theorem dL_law_1113 : decode cL_law 1113 = .ok (.iaload, 1) := by decide +kernel
theorem dL_law_1114 : decode cL_law 1114 = .ok (.invokevirtual 133, 3) := by decide +kernel
theorem dL_law_1117 : decode cL_law 1117 = .ok (.pop, 1) := by decide +kernel
theorem dL_law_1118 : decode cL_law 1118 = .ok (.aload_n 2, 1) := by decide +kernel
theorem dL_law_1119 : decode cL_law 1119 = .ok (.aload_n 0, 1) := by decide +kernel
theorem dL_law_1120 : decode cL_law 1120 = .ok (.iload_n 3, 1) := by decide +kernel
theorem dL_law_1121 : decode cL_law 1121 = .ok (.iconst 1, 1) := by decide +kernel
theorem dL_law_1122 : decode cL_law 1122 = .ok (.iadd, 1) := by decide +kernel
theorem dL_law_1123 : decode cL_law 1123 = .ok (.iaload, 1) := by decide +kernel
theorem dL_law_1124 : decode cL_law 1124 = .ok (.invokevirtual 136, 3) := by decide +kernel
theorem dL_law_1127 : decode cL_law 1127 = .ok (.pop, 1) := by decide +kernel
theorem dL_law_1128 : decode cL_law 1128 = .ok (.goto 3, 3) := by decide +kernel
theorem dL_law_1131 : decode cL_law 1131 = .ok (.iinc 3 6, 3) := by decide +kernel
theorem dL_law_1134 : decode cL_law 1134 = .ok (.goto (-1116), 3) := by decide +kernel
theorem dL_law_1137 : decode cL_law 1137 = .ok (.iconst 1, 1) := by decide +kernel
theorem dL_law_1138 : decode cL_law 1138 = .ok (.ireturn, 1) := by decide +kernel
