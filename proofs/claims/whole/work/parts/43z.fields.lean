/-! each field of each object, as equations to rewrite by -/
section Fe
variable {A : Nat → Nat → Int32} {B : Nat → Nat → Int64} {G : Nat → Nat → Int32} {fl : Nat → Bool}
theorem ck_0 : chk (mem A B G fl) 0 6 = some () := chk_mem (ly0 fl)
theorem gx_0_0 : gR (mem A B G fl) 0 6 0 = some 1 := gR_mem (ly0 fl) (by decide) rfl
theorem gx_0_1 : gR (mem A B G fl) 0 6 1 = some 2 := gR_mem (ly0 fl) (by decide) rfl
theorem gx_0_2 : gR (mem A B G fl) 0 6 2 = some 3 := gR_mem (ly0 fl) (by decide) rfl
theorem gx_0_3 : gR (mem A B G fl) 0 6 3 = some 4 := gR_mem (ly0 fl) (by decide) rfl
theorem gx_0_4 : gR (mem A B G fl) 0 6 4 = some 5 := gR_mem (ly0 fl) (by decide) rfl
theorem gx_0_5 : gR (mem A B G fl) 0 6 5 = some 6 := gR_mem (ly0 fl) (by decide) rfl
theorem gx_0_6 : gR (mem A B G fl) 0 6 6 = some 9 := gR_mem (ly0 fl) (by decide) rfl
theorem gx_0_7 : gR (mem A B G fl) 0 6 7 = some 13 := gR_mem (ly0 fl) (by decide) rfl
theorem gx_0_8 : gR (mem A B G fl) 0 6 8 = some 16 := gR_mem (ly0 fl) (by decide) rfl
theorem gx_0_9 : gR (mem A B G fl) 0 6 9 = some 19 := gR_mem (ly0 fl) (by decide) rfl
theorem gx_0_10 : gI (mem A B G fl) 0 6 10 = some (G 0 10) := gI_mem (ly0 fl) rfl
theorem px_0_10 (v : Int32) : pV (mem A B G fl) 0 6 10 (.int v) = some (mem A B (upA G 0 (upd (G 0) 10 v)) fl) := pI_mem (ly0 fl) rfl v
theorem gx_0_11 : gI (mem A B G fl) 0 6 11 = some (G 0 11) := gI_mem (ly0 fl) rfl
theorem px_0_11 (v : Int32) : pV (mem A B G fl) 0 6 11 (.int v) = some (mem A B (upA G 0 (upd (G 0) 11 v)) fl) := pI_mem (ly0 fl) rfl v
theorem gx_0_12 : gI (mem A B G fl) 0 6 12 = some (G 0 12) := gI_mem (ly0 fl) rfl
theorem px_0_12 (v : Int32) : pV (mem A B G fl) 0 6 12 (.int v) = some (mem A B (upA G 0 (upd (G 0) 12 v)) fl) := pI_mem (ly0 fl) rfl v
theorem gx_0_13 : gI (mem A B G fl) 0 6 13 = some (G 0 13) := gI_mem (ly0 fl) rfl
theorem px_0_13 (v : Int32) : pV (mem A B G fl) 0 6 13 (.int v) = some (mem A B (upA G 0 (upd (G 0) 13 v)) fl) := pI_mem (ly0 fl) rfl v
theorem gx_0_14 : gI (mem A B G fl) 0 6 14 = some (G 0 14) := gI_mem (ly0 fl) rfl
theorem px_0_14 (v : Int32) : pV (mem A B G fl) 0 6 14 (.int v) = some (mem A B (upA G 0 (upd (G 0) 14 v)) fl) := pI_mem (ly0 fl) rfl v
theorem gn_0_15 : gN (mem A B G fl) 0 6 15 = some (if fl 1 = true then some 82 else none) := gN_mem (ly0 fl) rfl
theorem gx_0_15 (h : fl 1 = true) : gR (mem A B G fl) 0 6 15 = some 82 := gM_mem (ly0 fl) rfl h
theorem gz_0_15 (h : fl 1 = false) : gZ (mem A B G fl) 0 6 15 = some () := gZ_mem (ly0 fl) rfl h
theorem gn_0_16 : gN (mem A B G fl) 0 6 16 = some (if fl 2 = true then some 93 else none) := gN_mem (ly0 fl) rfl
theorem gx_0_16 (h : fl 2 = true) : gR (mem A B G fl) 0 6 16 = some 93 := gM_mem (ly0 fl) rfl h
theorem gz_0_16 (h : fl 2 = false) : gZ (mem A B G fl) 0 6 16 = some () := gZ_mem (ly0 fl) rfl h
theorem gn_0_17 : gN (mem A B G fl) 0 6 17 = some (if fl 3 = true then some 98 else none) := gN_mem (ly0 fl) rfl
theorem gx_0_17 (h : fl 3 = true) : gR (mem A B G fl) 0 6 17 = some 98 := gM_mem (ly0 fl) rfl h
theorem gz_0_17 (h : fl 3 = false) : gZ (mem A B G fl) 0 6 17 = some () := gZ_mem (ly0 fl) rfl h
theorem ck_6 : chk (mem A B G fl) 6 2 = some () := chk_mem (ly6 fl)
theorem gx_6_0 : gR (mem A B G fl) 6 2 0 = some 7 := gR_mem (ly6 fl) (by decide) rfl
theorem gx_6_1 : gR (mem A B G fl) 6 2 1 = some 8 := gR_mem (ly6 fl) (by decide) rfl
theorem gx_6_2 : gI (mem A B G fl) 6 2 2 = some (G 6 2) := gI_mem (ly6 fl) rfl
theorem px_6_2 (v : Int32) : pV (mem A B G fl) 6 2 2 (.int v) = some (mem A B (upA G 6 (upd (G 6) 2 v)) fl) := pI_mem (ly6 fl) rfl v
theorem gx_6_3 : gI (mem A B G fl) 6 2 3 = some (G 6 3) := gI_mem (ly6 fl) rfl
theorem px_6_3 (v : Int32) : pV (mem A B G fl) 6 2 3 (.int v) = some (mem A B (upA G 6 (upd (G 6) 3 v)) fl) := pI_mem (ly6 fl) rfl v
theorem gx_6_4 : gI (mem A B G fl) 6 2 4 = some (G 6 4) := gI_mem (ly6 fl) rfl
theorem px_6_4 (v : Int32) : pV (mem A B G fl) 6 2 4 (.int v) = some (mem A B (upA G 6 (upd (G 6) 4 v)) fl) := pI_mem (ly6 fl) rfl v
theorem ck_9 : chk (mem A B G fl) 9 3 = some () := chk_mem (ly9 fl)
theorem gx_9_0 : gR (mem A B G fl) 9 3 0 = some 10 := gR_mem (ly9 fl) (by decide) rfl
theorem gx_9_1 : gR (mem A B G fl) 9 3 1 = some 11 := gR_mem (ly9 fl) (by decide) rfl
theorem gx_9_2 : gR (mem A B G fl) 9 3 2 = some 12 := gR_mem (ly9 fl) (by decide) rfl
theorem gx_9_3 : gI (mem A B G fl) 9 3 3 = some (G 9 3) := gI_mem (ly9 fl) rfl
theorem px_9_3 (v : Int32) : pV (mem A B G fl) 9 3 3 (.int v) = some (mem A B (upA G 9 (upd (G 9) 3 v)) fl) := pI_mem (ly9 fl) rfl v
theorem gx_9_4 : gI (mem A B G fl) 9 3 4 = some (G 9 4) := gI_mem (ly9 fl) rfl
theorem px_9_4 (v : Int32) : pV (mem A B G fl) 9 3 4 (.int v) = some (mem A B (upA G 9 (upd (G 9) 4 v)) fl) := pI_mem (ly9 fl) rfl v
theorem ck_13 : chk (mem A B G fl) 13 0 = some () := chk_mem (ly13 fl)
theorem gx_13_0 : gR (mem A B G fl) 13 0 0 = some 14 := gR_mem (ly13 fl) (by decide) rfl
theorem gx_13_1 : gR (mem A B G fl) 13 0 1 = some 15 := gR_mem (ly13 fl) (by decide) rfl
theorem gx_13_2 : gI (mem A B G fl) 13 0 2 = some (G 13 2) := gI_mem (ly13 fl) rfl
theorem px_13_2 (v : Int32) : pV (mem A B G fl) 13 0 2 (.int v) = some (mem A B (upA G 13 (upd (G 13) 2 v)) fl) := pI_mem (ly13 fl) rfl v
theorem ck_16 : chk (mem A B G fl) 16 0 = some () := chk_mem (ly16 fl)
theorem gx_16_0 : gR (mem A B G fl) 16 0 0 = some 17 := gR_mem (ly16 fl) (by decide) rfl
theorem gx_16_1 : gR (mem A B G fl) 16 0 1 = some 18 := gR_mem (ly16 fl) (by decide) rfl
theorem gx_16_2 : gI (mem A B G fl) 16 0 2 = some (G 16 2) := gI_mem (ly16 fl) rfl
theorem px_16_2 (v : Int32) : pV (mem A B G fl) 16 0 2 (.int v) = some (mem A B (upA G 16 (upd (G 16) 2 v)) fl) := pI_mem (ly16 fl) rfl v
theorem ck_20 : chk (mem A B G fl) 20 0 = some () := chk_mem (ly20 fl)
theorem gx_20_0 : gR (mem A B G fl) 20 0 0 = some 21 := gR_mem (ly20 fl) (by decide) rfl
theorem gx_20_1 : gR (mem A B G fl) 20 0 1 = some 22 := gR_mem (ly20 fl) (by decide) rfl
theorem gx_20_2 : gI (mem A B G fl) 20 0 2 = some (G 20 2) := gI_mem (ly20 fl) rfl
theorem px_20_2 (v : Int32) : pV (mem A B G fl) 20 0 2 (.int v) = some (mem A B (upA G 20 (upd (G 20) 2 v)) fl) := pI_mem (ly20 fl) rfl v
theorem ck_23 : chk (mem A B G fl) 23 0 = some () := chk_mem (ly23 fl)
theorem gx_23_0 : gR (mem A B G fl) 23 0 0 = some 24 := gR_mem (ly23 fl) (by decide) rfl
theorem gx_23_1 : gR (mem A B G fl) 23 0 1 = some 25 := gR_mem (ly23 fl) (by decide) rfl
theorem gx_23_2 : gI (mem A B G fl) 23 0 2 = some (G 23 2) := gI_mem (ly23 fl) rfl
theorem px_23_2 (v : Int32) : pV (mem A B G fl) 23 0 2 (.int v) = some (mem A B (upA G 23 (upd (G 23) 2 v)) fl) := pI_mem (ly23 fl) rfl v
theorem ck_26 : chk (mem A B G fl) 26 0 = some () := chk_mem (ly26 fl)
theorem gx_26_0 : gR (mem A B G fl) 26 0 0 = some 27 := gR_mem (ly26 fl) (by decide) rfl
theorem gx_26_1 : gR (mem A B G fl) 26 0 1 = some 28 := gR_mem (ly26 fl) (by decide) rfl
theorem gx_26_2 : gI (mem A B G fl) 26 0 2 = some (G 26 2) := gI_mem (ly26 fl) rfl
theorem px_26_2 (v : Int32) : pV (mem A B G fl) 26 0 2 (.int v) = some (mem A B (upA G 26 (upd (G 26) 2 v)) fl) := pI_mem (ly26 fl) rfl v
theorem ck_29 : chk (mem A B G fl) 29 0 = some () := chk_mem (ly29 fl)
theorem gx_29_0 : gR (mem A B G fl) 29 0 0 = some 30 := gR_mem (ly29 fl) (by decide) rfl
theorem gx_29_1 : gR (mem A B G fl) 29 0 1 = some 31 := gR_mem (ly29 fl) (by decide) rfl
theorem gx_29_2 : gI (mem A B G fl) 29 0 2 = some (G 29 2) := gI_mem (ly29 fl) rfl
theorem px_29_2 (v : Int32) : pV (mem A B G fl) 29 0 2 (.int v) = some (mem A B (upA G 29 (upd (G 29) 2 v)) fl) := pI_mem (ly29 fl) rfl v
theorem ck_32 : chk (mem A B G fl) 32 0 = some () := chk_mem (ly32 fl)
theorem gx_32_0 : gR (mem A B G fl) 32 0 0 = some 33 := gR_mem (ly32 fl) (by decide) rfl
theorem gx_32_1 : gR (mem A B G fl) 32 0 1 = some 34 := gR_mem (ly32 fl) (by decide) rfl
theorem gx_32_2 : gI (mem A B G fl) 32 0 2 = some (G 32 2) := gI_mem (ly32 fl) rfl
theorem px_32_2 (v : Int32) : pV (mem A B G fl) 32 0 2 (.int v) = some (mem A B (upA G 32 (upd (G 32) 2 v)) fl) := pI_mem (ly32 fl) rfl v
theorem ck_35 : chk (mem A B G fl) 35 0 = some () := chk_mem (ly35 fl)
theorem gx_35_0 : gR (mem A B G fl) 35 0 0 = some 36 := gR_mem (ly35 fl) (by decide) rfl
theorem gx_35_1 : gR (mem A B G fl) 35 0 1 = some 37 := gR_mem (ly35 fl) (by decide) rfl
theorem gx_35_2 : gI (mem A B G fl) 35 0 2 = some (G 35 2) := gI_mem (ly35 fl) rfl
theorem px_35_2 (v : Int32) : pV (mem A B G fl) 35 0 2 (.int v) = some (mem A B (upA G 35 (upd (G 35) 2 v)) fl) := pI_mem (ly35 fl) rfl v
theorem ck_38 : chk (mem A B G fl) 38 0 = some () := chk_mem (ly38 fl)
theorem gx_38_0 : gR (mem A B G fl) 38 0 0 = some 39 := gR_mem (ly38 fl) (by decide) rfl
theorem gx_38_1 : gR (mem A B G fl) 38 0 1 = some 40 := gR_mem (ly38 fl) (by decide) rfl
theorem gx_38_2 : gI (mem A B G fl) 38 0 2 = some (G 38 2) := gI_mem (ly38 fl) rfl
theorem px_38_2 (v : Int32) : pV (mem A B G fl) 38 0 2 (.int v) = some (mem A B (upA G 38 (upd (G 38) 2 v)) fl) := pI_mem (ly38 fl) rfl v
theorem ck_41 : chk (mem A B G fl) 41 0 = some () := chk_mem (ly41 fl)
theorem gx_41_0 : gR (mem A B G fl) 41 0 0 = some 42 := gR_mem (ly41 fl) (by decide) rfl
theorem gx_41_1 : gR (mem A B G fl) 41 0 1 = some 43 := gR_mem (ly41 fl) (by decide) rfl
theorem gx_41_2 : gI (mem A B G fl) 41 0 2 = some (G 41 2) := gI_mem (ly41 fl) rfl
theorem px_41_2 (v : Int32) : pV (mem A B G fl) 41 0 2 (.int v) = some (mem A B (upA G 41 (upd (G 41) 2 v)) fl) := pI_mem (ly41 fl) rfl v
theorem ck_44 : chk (mem A B G fl) 44 7 = some () := chk_mem (ly44 fl)
theorem gx_44_0 : gR (mem A B G fl) 44 7 0 = some 45 := gR_mem (ly44 fl) (by decide) rfl
theorem gx_44_1 : gI (mem A B G fl) 44 7 1 = some (G 44 1) := gI_mem (ly44 fl) rfl
theorem px_44_1 (v : Int32) : pV (mem A B G fl) 44 7 1 (.int v) = some (mem A B (upA G 44 (upd (G 44) 1 v)) fl) := pI_mem (ly44 fl) rfl v
theorem gx_44_2 : gR (mem A B G fl) 44 7 2 = some 46 := gR_mem (ly44 fl) (by decide) rfl
theorem gx_44_3 : gI (mem A B G fl) 44 7 3 = some (G 44 3) := gI_mem (ly44 fl) rfl
theorem px_44_3 (v : Int32) : pV (mem A B G fl) 44 7 3 (.int v) = some (mem A B (upA G 44 (upd (G 44) 3 v)) fl) := pI_mem (ly44 fl) rfl v
theorem gx_44_4 : gI (mem A B G fl) 44 7 4 = some (G 44 4) := gI_mem (ly44 fl) rfl
theorem px_44_4 (v : Int32) : pV (mem A B G fl) 44 7 4 (.int v) = some (mem A B (upA G 44 (upd (G 44) 4 v)) fl) := pI_mem (ly44 fl) rfl v
theorem gx_44_5 : gI (mem A B G fl) 44 7 5 = some (G 44 5) := gI_mem (ly44 fl) rfl
theorem px_44_5 (v : Int32) : pV (mem A B G fl) 44 7 5 (.int v) = some (mem A B (upA G 44 (upd (G 44) 5 v)) fl) := pI_mem (ly44 fl) rfl v
theorem gx_44_6 : gI (mem A B G fl) 44 7 6 = some (G 44 6) := gI_mem (ly44 fl) rfl
theorem px_44_6 (v : Int32) : pV (mem A B G fl) 44 7 6 (.int v) = some (mem A B (upA G 44 (upd (G 44) 6 v)) fl) := pI_mem (ly44 fl) rfl v
theorem gx_44_7 : gR (mem A B G fl) 44 7 7 = some 47 := gR_mem (ly44 fl) (by decide) rfl
theorem gx_44_8 : gR (mem A B G fl) 44 7 8 = some 48 := gR_mem (ly44 fl) (by decide) rfl
theorem gx_44_9 : gR (mem A B G fl) 44 7 9 = some 49 := gR_mem (ly44 fl) (by decide) rfl
theorem gx_44_10 : gR (mem A B G fl) 44 7 10 = some 50 := gR_mem (ly44 fl) (by decide) rfl
theorem gx_44_11 : gR (mem A B G fl) 44 7 11 = some 51 := gR_mem (ly44 fl) (by decide) rfl
theorem gx_44_12 : gR (mem A B G fl) 44 7 12 = some 52 := gR_mem (ly44 fl) (by decide) rfl
theorem gx_44_13 : gR (mem A B G fl) 44 7 13 = some 53 := gR_mem (ly44 fl) (by decide) rfl
theorem gx_44_14 : gI (mem A B G fl) 44 7 14 = some (G 44 14) := gI_mem (ly44 fl) rfl
theorem px_44_14 (v : Int32) : pV (mem A B G fl) 44 7 14 (.int v) = some (mem A B (upA G 44 (upd (G 44) 14 v)) fl) := pI_mem (ly44 fl) rfl v
theorem gx_44_15 : gI (mem A B G fl) 44 7 15 = some (G 44 15) := gI_mem (ly44 fl) rfl
theorem px_44_15 (v : Int32) : pV (mem A B G fl) 44 7 15 (.int v) = some (mem A B (upA G 44 (upd (G 44) 15 v)) fl) := pI_mem (ly44 fl) rfl v
theorem gx_44_16 : gI (mem A B G fl) 44 7 16 = some (G 44 16) := gI_mem (ly44 fl) rfl
theorem px_44_16 (v : Int32) : pV (mem A B G fl) 44 7 16 (.int v) = some (mem A B (upA G 44 (upd (G 44) 16 v)) fl) := pI_mem (ly44 fl) rfl v
theorem gx_44_17 : gR (mem A B G fl) 44 7 17 = some 54 := gR_mem (ly44 fl) (by decide) rfl
theorem gx_44_18 : gR (mem A B G fl) 44 7 18 = some 55 := gR_mem (ly44 fl) (by decide) rfl
theorem gx_44_19 : gR (mem A B G fl) 44 7 19 = some 56 := gR_mem (ly44 fl) (by decide) rfl
theorem gx_44_20 : gR (mem A B G fl) 44 7 20 = some 57 := gR_mem (ly44 fl) (by decide) rfl
theorem gx_44_21 : gI (mem A B G fl) 44 7 21 = some (G 44 21) := gI_mem (ly44 fl) rfl
theorem px_44_21 (v : Int32) : pV (mem A B G fl) 44 7 21 (.int v) = some (mem A B (upA G 44 (upd (G 44) 21 v)) fl) := pI_mem (ly44 fl) rfl v
theorem gx_44_22 : gR (mem A B G fl) 44 7 22 = some 58 := gR_mem (ly44 fl) (by decide) rfl
theorem gx_44_23 : gI (mem A B G fl) 44 7 23 = some (G 44 23) := gI_mem (ly44 fl) rfl
theorem px_44_23 (v : Int32) : pV (mem A B G fl) 44 7 23 (.int v) = some (mem A B (upA G 44 (upd (G 44) 23 v)) fl) := pI_mem (ly44 fl) rfl v
theorem gx_44_24 : gR (mem A B G fl) 44 7 24 = some 59 := gR_mem (ly44 fl) (by decide) rfl
theorem gx_44_25 : gI (mem A B G fl) 44 7 25 = some (G 44 25) := gI_mem (ly44 fl) rfl
theorem px_44_25 (v : Int32) : pV (mem A B G fl) 44 7 25 (.int v) = some (mem A B (upA G 44 (upd (G 44) 25 v)) fl) := pI_mem (ly44 fl) rfl v
theorem gx_44_26 : gI (mem A B G fl) 44 7 26 = some (G 44 26) := gI_mem (ly44 fl) rfl
theorem px_44_26 (v : Int32) : pV (mem A B G fl) 44 7 26 (.int v) = some (mem A B (upA G 44 (upd (G 44) 26 v)) fl) := pI_mem (ly44 fl) rfl v
theorem gx_44_27 : gR (mem A B G fl) 44 7 27 = some 60 := gR_mem (ly44 fl) (by decide) rfl
theorem gx_44_28 : gR (mem A B G fl) 44 7 28 = some 61 := gR_mem (ly44 fl) (by decide) rfl
theorem gx_44_29 : gR (mem A B G fl) 44 7 29 = some 62 := gR_mem (ly44 fl) (by decide) rfl
theorem gx_44_30 : gR (mem A B G fl) 44 7 30 = some 63 := gR_mem (ly44 fl) (by decide) rfl
theorem gx_44_31 : gR (mem A B G fl) 44 7 31 = some 64 := gR_mem (ly44 fl) (by decide) rfl
theorem gx_44_32 : gR (mem A B G fl) 44 7 32 = some 65 := gR_mem (ly44 fl) (by decide) rfl
theorem gx_44_33 : gI (mem A B G fl) 44 7 33 = some (G 44 33) := gI_mem (ly44 fl) rfl
theorem px_44_33 (v : Int32) : pV (mem A B G fl) 44 7 33 (.int v) = some (mem A B (upA G 44 (upd (G 44) 33 v)) fl) := pI_mem (ly44 fl) rfl v
theorem gx_44_34 : gR (mem A B G fl) 44 7 34 = some 66 := gR_mem (ly44 fl) (by decide) rfl
theorem gx_44_35 : gR (mem A B G fl) 44 7 35 = some 67 := gR_mem (ly44 fl) (by decide) rfl
theorem gx_44_36 : gI (mem A B G fl) 44 7 36 = some (G 44 36) := gI_mem (ly44 fl) rfl
theorem px_44_36 (v : Int32) : pV (mem A B G fl) 44 7 36 (.int v) = some (mem A B (upA G 44 (upd (G 44) 36 v)) fl) := pI_mem (ly44 fl) rfl v
theorem gx_44_37 : gI (mem A B G fl) 44 7 37 = some (G 44 37) := gI_mem (ly44 fl) rfl
theorem px_44_37 (v : Int32) : pV (mem A B G fl) 44 7 37 (.int v) = some (mem A B (upA G 44 (upd (G 44) 37 v)) fl) := pI_mem (ly44 fl) rfl v
theorem gx_44_38 : gR (mem A B G fl) 44 7 38 = some 68 := gR_mem (ly44 fl) (by decide) rfl
theorem gx_44_39 : gR (mem A B G fl) 44 7 39 = some 69 := gR_mem (ly44 fl) (by decide) rfl
theorem gx_44_40 : gI (mem A B G fl) 44 7 40 = some (G 44 40) := gI_mem (ly44 fl) rfl
theorem px_44_40 (v : Int32) : pV (mem A B G fl) 44 7 40 (.int v) = some (mem A B (upA G 44 (upd (G 44) 40 v)) fl) := pI_mem (ly44 fl) rfl v
theorem gx_44_41 : gR (mem A B G fl) 44 7 41 = some 70 := gR_mem (ly44 fl) (by decide) rfl
theorem gx_44_42 : gR (mem A B G fl) 44 7 42 = some 71 := gR_mem (ly44 fl) (by decide) rfl
theorem gx_44_43 : gR (mem A B G fl) 44 7 43 = some 72 := gR_mem (ly44 fl) (by decide) rfl
theorem gx_44_44 : gI (mem A B G fl) 44 7 44 = some (G 44 44) := gI_mem (ly44 fl) rfl
theorem px_44_44 (v : Int32) : pV (mem A B G fl) 44 7 44 (.int v) = some (mem A B (upA G 44 (upd (G 44) 44 v)) fl) := pI_mem (ly44 fl) rfl v
theorem gx_44_45 : gR (mem A B G fl) 44 7 45 = some 73 := gR_mem (ly44 fl) (by decide) rfl
theorem gx_44_46 : gI (mem A B G fl) 44 7 46 = some (G 44 46) := gI_mem (ly44 fl) rfl
theorem px_44_46 (v : Int32) : pV (mem A B G fl) 44 7 46 (.int v) = some (mem A B (upA G 44 (upd (G 44) 46 v)) fl) := pI_mem (ly44 fl) rfl v
theorem gx_44_47 : gR (mem A B G fl) 44 7 47 = some 74 := gR_mem (ly44 fl) (by decide) rfl
theorem gx_44_48 : gR (mem A B G fl) 44 7 48 = some 75 := gR_mem (ly44 fl) (by decide) rfl
theorem gx_44_49 : gR (mem A B G fl) 44 7 49 = some 76 := gR_mem (ly44 fl) (by decide) rfl
theorem gx_44_50 : gI (mem A B G fl) 44 7 50 = some (G 44 50) := gI_mem (ly44 fl) rfl
theorem px_44_50 (v : Int32) : pV (mem A B G fl) 44 7 50 (.int v) = some (mem A B (upA G 44 (upd (G 44) 50 v)) fl) := pI_mem (ly44 fl) rfl v
theorem gx_44_51 : gR (mem A B G fl) 44 7 51 = some 77 := gR_mem (ly44 fl) (by decide) rfl
theorem gx_44_52 : gR (mem A B G fl) 44 7 52 = some 78 := gR_mem (ly44 fl) (by decide) rfl
theorem gx_44_53 : gI (mem A B G fl) 44 7 53 = some (G 44 53) := gI_mem (ly44 fl) rfl
theorem px_44_53 (v : Int32) : pV (mem A B G fl) 44 7 53 (.int v) = some (mem A B (upA G 44 (upd (G 44) 53 v)) fl) := pI_mem (ly44 fl) rfl v
theorem gx_44_54 : gR (mem A B G fl) 44 7 54 = some 79 := gR_mem (ly44 fl) (by decide) rfl
theorem gx_44_55 : gR (mem A B G fl) 44 7 55 = some 80 := gR_mem (ly44 fl) (by decide) rfl
theorem gx_44_56 : gR (mem A B G fl) 44 7 56 = some 81 := gR_mem (ly44 fl) (by decide) rfl
theorem ck_82 (h : fl 1 = true) : chk (mem A B G fl) 82 1 = some () := chk_mem (ly82 h)
theorem gx_82_0 (h : fl 1 = true) : gR (mem A B G fl) 82 1 0 = some 83 := gR_mem (ly82 h) (by decide) rfl
theorem gx_82_1 (h : fl 1 = true) : gR (mem A B G fl) 82 1 1 = some 84 := gR_mem (ly82 h) (by decide) rfl
theorem gx_82_2 (h : fl 1 = true) : gR (mem A B G fl) 82 1 2 = some 85 := gR_mem (ly82 h) (by decide) rfl
theorem gx_82_3 (h : fl 1 = true) : gR (mem A B G fl) 82 1 3 = some 86 := gR_mem (ly82 h) (by decide) rfl
theorem gx_82_4 (h : fl 1 = true) : gR (mem A B G fl) 82 1 4 = some 87 := gR_mem (ly82 h) (by decide) rfl
theorem gx_82_5 (h : fl 1 = true) : gR (mem A B G fl) 82 1 5 = some 88 := gR_mem (ly82 h) (by decide) rfl
theorem gx_82_6 (h : fl 1 = true) : gR (mem A B G fl) 82 1 6 = some 89 := gR_mem (ly82 h) (by decide) rfl
theorem gx_82_7 (h : fl 1 = true) : gI (mem A B G fl) 82 1 7 = some (G 82 7) := gI_mem (ly82 h) rfl
theorem px_82_7 (h : fl 1 = true) (v : Int32) : pV (mem A B G fl) 82 1 7 (.int v) = some (mem A B (upA G 82 (upd (G 82) 7 v)) fl) := pI_mem (ly82 h) rfl v
theorem gx_82_8 (h : fl 1 = true) : gI (mem A B G fl) 82 1 8 = some (G 82 8) := gI_mem (ly82 h) rfl
theorem px_82_8 (h : fl 1 = true) (v : Int32) : pV (mem A B G fl) 82 1 8 (.int v) = some (mem A B (upA G 82 (upd (G 82) 8 v)) fl) := pI_mem (ly82 h) rfl v
theorem gx_82_9 (h : fl 1 = true) : gI (mem A B G fl) 82 1 9 = some (G 82 9) := gI_mem (ly82 h) rfl
theorem px_82_9 (h : fl 1 = true) (v : Int32) : pV (mem A B G fl) 82 1 9 (.int v) = some (mem A B (upA G 82 (upd (G 82) 9 v)) fl) := pI_mem (ly82 h) rfl v
theorem gx_82_10 (h : fl 1 = true) : gI (mem A B G fl) 82 1 10 = some (G 82 10) := gI_mem (ly82 h) rfl
theorem px_82_10 (h : fl 1 = true) (v : Int32) : pV (mem A B G fl) 82 1 10 (.int v) = some (mem A B (upA G 82 (upd (G 82) 10 v)) fl) := pI_mem (ly82 h) rfl v
theorem ck_89 (h : fl 1 = true) : chk (mem A B G fl) 89 3 = some () := chk_mem (ly89 h)
theorem gx_89_0 (h : fl 1 = true) : gR (mem A B G fl) 89 3 0 = some 90 := gR_mem (ly89 h) (by decide) rfl
theorem gx_89_1 (h : fl 1 = true) : gR (mem A B G fl) 89 3 1 = some 91 := gR_mem (ly89 h) (by decide) rfl
theorem gx_89_2 (h : fl 1 = true) : gR (mem A B G fl) 89 3 2 = some 92 := gR_mem (ly89 h) (by decide) rfl
theorem gx_89_3 (h : fl 1 = true) : gI (mem A B G fl) 89 3 3 = some (G 89 3) := gI_mem (ly89 h) rfl
theorem px_89_3 (h : fl 1 = true) (v : Int32) : pV (mem A B G fl) 89 3 3 (.int v) = some (mem A B (upA G 89 (upd (G 89) 3 v)) fl) := pI_mem (ly89 h) rfl v
theorem gx_89_4 (h : fl 1 = true) : gI (mem A B G fl) 89 3 4 = some (G 89 4) := gI_mem (ly89 h) rfl
theorem px_89_4 (h : fl 1 = true) (v : Int32) : pV (mem A B G fl) 89 3 4 (.int v) = some (mem A B (upA G 89 (upd (G 89) 4 v)) fl) := pI_mem (ly89 h) rfl v
theorem ck_93 (h : fl 2 = true) : chk (mem A B G fl) 93 4 = some () := chk_mem (ly93 h)
theorem gx_93_0 (h : fl 2 = true) : gR (mem A B G fl) 93 4 0 = some 94 := gR_mem (ly93 h) (by decide) rfl
theorem gx_93_1 (h : fl 2 = true) : gR (mem A B G fl) 93 4 1 = some 95 := gR_mem (ly93 h) (by decide) rfl
theorem gx_93_2 (h : fl 2 = true) : gR (mem A B G fl) 93 4 2 = some 96 := gR_mem (ly93 h) (by decide) rfl
theorem gx_93_3 (h : fl 2 = true) : gR (mem A B G fl) 93 4 3 = some 97 := gR_mem (ly93 h) (by decide) rfl
theorem gx_93_4 (h : fl 2 = true) : gI (mem A B G fl) 93 4 4 = some (G 93 4) := gI_mem (ly93 h) rfl
theorem px_93_4 (h : fl 2 = true) (v : Int32) : pV (mem A B G fl) 93 4 4 (.int v) = some (mem A B (upA G 93 (upd (G 93) 4 v)) fl) := pI_mem (ly93 h) rfl v
theorem ck_98 (h : fl 3 = true) : chk (mem A B G fl) 98 5 = some () := chk_mem (ly98 h)
theorem gx_98_0 (h : fl 3 = true) : gR (mem A B G fl) 98 5 0 = some 99 := gR_mem (ly98 h) (by decide) rfl
theorem gx_98_1 (h : fl 3 = true) : gR (mem A B G fl) 98 5 1 = some 100 := gR_mem (ly98 h) (by decide) rfl
theorem gx_98_2 (h : fl 3 = true) : gR (mem A B G fl) 98 5 2 = some 101 := gR_mem (ly98 h) (by decide) rfl
theorem gx_98_3 (h : fl 3 = true) : gR (mem A B G fl) 98 5 3 = some 102 := gR_mem (ly98 h) (by decide) rfl
theorem gx_98_4 (h : fl 3 = true) : gR (mem A B G fl) 98 5 4 = some 103 := gR_mem (ly98 h) (by decide) rfl
theorem gx_98_5 (h : fl 3 = true) : gR (mem A B G fl) 98 5 5 = some 104 := gR_mem (ly98 h) (by decide) rfl
theorem gx_98_6 (h : fl 3 = true) : gI (mem A B G fl) 98 5 6 = some (G 98 6) := gI_mem (ly98 h) rfl
theorem px_98_6 (h : fl 3 = true) (v : Int32) : pV (mem A B G fl) 98 5 6 (.int v) = some (mem A B (upA G 98 (upd (G 98) 6 v)) fl) := pI_mem (ly98 h) rfl v
theorem gx_98_7 (h : fl 3 = true) : gI (mem A B G fl) 98 5 7 = some (G 98 7) := gI_mem (ly98 h) rfl
theorem px_98_7 (h : fl 3 = true) (v : Int32) : pV (mem A B G fl) 98 5 7 (.int v) = some (mem A B (upA G 98 (upd (G 98) 7 v)) fl) := pI_mem (ly98 h) rfl v
theorem gx_98_8 (h : fl 3 = true) : gI (mem A B G fl) 98 5 8 = some (G 98 8) := gI_mem (ly98 h) rfl
theorem px_98_8 (h : fl 3 = true) (v : Int32) : pV (mem A B G fl) 98 5 8 (.int v) = some (mem A B (upA G 98 (upd (G 98) 8 v)) fl) := pI_mem (ly98 h) rfl v
theorem gx_98_9 (h : fl 3 = true) : gI (mem A B G fl) 98 5 9 = some (G 98 9) := gI_mem (ly98 h) rfl
theorem px_98_9 (h : fl 3 = true) (v : Int32) : pV (mem A B G fl) 98 5 9 (.int v) = some (mem A B (upA G 98 (upd (G 98) 9 v)) fl) := pI_mem (ly98 h) rfl v
theorem gx_98_10 (h : fl 3 = true) : gI (mem A B G fl) 98 5 10 = some (G 98 10) := gI_mem (ly98 h) rfl
theorem px_98_10 (h : fl 3 = true) (v : Int32) : pV (mem A B G fl) 98 5 10 (.int v) = some (mem A B (upA G 98 (upd (G 98) 10 v)) fl) := pI_mem (ly98 h) rfl v
end Fe
theorem sb {α β : Type} (a : α) (f : α → Option β) : (some a).bind f = f a := rfl
theorem b2s {α β γ : Type} (a : α) (b : β) (f : α → β → Option γ) : bnd2 (some (a, b)) f = f a b := rfl
