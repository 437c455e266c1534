/-! Conditions cut at joins (printed by wip/whole/vcj.py). -/
set_option maxRecDepth 20000 in
/-- DiskPoolModel.feed from 0 -/
theorem j_195 {x1 x2 : Int} {S : zS} {Qr Qt : Int → zS → Prop} (h : (x1 < 1 → zEnds 118 195 12 [(29, 35), (0, x1), (1, x2), (9, 0), (9, 0)] [(29, 35)] S Qr Qt) ∧ (¬ (x1 < 1) → (x1 ≤ 8 → zEnds 118 195 17 [(29, 35), (0, x1), (1, x2), (9, 0), (9, 0)] [(0, 0), (29, 35)] S Qr Qt) ∧ (¬ (x1 ≤ 8) → zEnds 118 195 12 [(29, 35), (0, x1), (1, x2), (9, 0), (9, 0)] [(29, 35)] S Qr Qt))) : zEnds 118 195 0 [(29, 35), (0, x1), (1, x2), (9, 0), (9, 0)] [] S Qr Qt := zwq_sound [12, 17, 42, 49] 400 0 _ _ _ h
set_option maxRecDepth 20000 in
/-- DiskPoolModel.feed from 54 -/
theorem j_195_54 {x1 x2 x4 : Int} {S : zS} {Qr Qt : Int → zS → Prop} (h : (x1 ≤ x4 → Qr ((zupd S.2.2 35 17 (z32 (S.2.2 35 17 + x1))) 35 17) (S.1, S.2.1, zupd S.2.2 35 17 (z32 (S.2.2 35 17 + x1)))) ∧ (¬ (x1 ≤ x4) → (0 ≤ z32 (S.2.2 35 17 + x4) ∧ z32 (S.2.2 35 17 + x4) < S.2.1 42) ∧ zEnds 118 195 54 [(29, 35), (0, x1), (1, x2), (9, 0), (0, z32 (x4 + 1))] [] (S.1, S.2.1, zupd S.2.2 42 (z32 (S.2.2 35 17 + x4)) (z32 (zland (zlshr x2 (z32 (8 * x4))) 255))) Qr Qt)) : zEnds 118 195 54 [(29, 35), (0, x1), (1, x2), (9, 0), (0, x4)] [] S Qr Qt := zwq_sound [12, 17, 42, 49] 400 54 _ _ _ h
set_option maxRecDepth 20000 in
/-- DiskPoolModel.feed from 12 -/
theorem j_195_12 {x1 x2 : Int} {S : zS} {Qr Qt : Int → zS → Prop} (h : zEnds 118 195 17 [(29, 35), (0, x1), (1, x2), (9, 0), (9, 0)] [(0, 1), (29, 35)] S Qr Qt) : zEnds 118 195 12 [(29, 35), (0, x1), (1, x2), (9, 0), (9, 0)] [(29, 35)] S Qr Qt := zwq_sound [12, 17, 42, 49] 400 12 _ _ _ h
set_option maxRecDepth 20000 in
/-- DiskPoolModel.feed from 17 -/
theorem j_195_17 {x1 x2 y0 : Int} {S : zS} {Qr Qt : Int → zS → Prop} (h : zEnds 118 181 0 [(29, 35), (0, y0), (0, 1)] [] S (fun v1 S1 => (v1 ≠ 0 → zEnds 118 195 49 [(29, 35), (0, x1), (1, x2), (9, 0), (9, 0)] [] S1 Qr Qt) ∧ (¬ (v1 ≠ 0) → (z32 (S1.2.2 35 17 + x1) ≤ 512 → zEnds 118 195 42 [(29, 35), (0, x1), (1, x2), (9, 0), (9, 0)] [(0, 0), (29, 35)] S1 Qr Qt) ∧ (¬ (z32 (S1.2.2 35 17 + x1) ≤ 512) → zEnds 118 195 42 [(29, 35), (0, x1), (1, x2), (9, 0), (9, 0)] [(0, 1), (29, 35)] S1 Qr Qt))) Qt) : zEnds 118 195 17 [(29, 35), (0, x1), (1, x2), (9, 0), (9, 0)] [(0, y0), (29, 35)] S Qr Qt := zwq_sound [12, 17, 42, 49] 400 17 _ _ _ h
set_option maxRecDepth 20000 in
/-- DiskPoolModel.feed from 49 -/
theorem j_195_49 {x1 x2 : Int} {S : zS} {Qr Qt : Int → zS → Prop} (h : Qr 0 S) : zEnds 118 195 49 [(29, 35), (0, x1), (1, x2), (9, 0), (9, 0)] [] S Qr Qt := zwq_sound [12, 17, 42, 49] 400 49 _ _ _ h
set_option maxRecDepth 20000 in
/-- DiskPoolModel.feed from 42 -/
theorem j_195_42 {x1 x2 y0 : Int} {S : zS} {Qr Qt : Int → zS → Prop} (h : zEnds 118 181 0 [(29, 35), (0, y0), (0, 2)] [] S (fun v1 S1 => (v1 = 0 → zEnds 118 195 54 [(29, 35), (0, x1), (1, x2), (9, 0), (0, 0)] [] S1 Qr Qt) ∧ (¬ (v1 = 0) → zEnds 118 195 49 [(29, 35), (0, x1), (1, x2), (9, 0), (9, 0)] [] S1 Qr Qt)) Qt) : zEnds 118 195 42 [(29, 35), (0, x1), (1, x2), (9, 0), (9, 0)] [(0, y0), (29, 35)] S Qr Qt := zwq_sound [12, 17, 42, 49] 400 42 _ _ _ h
set_option maxRecDepth 20000 in
/-- DiskPoolModel.lose from 0 -/
theorem j_198 {x1 : Int} {S : zS} {Qr Qt : Int → zS → Prop} (h : ((0 : Int) ≤ x1 → zEnds 118 198 10 [(29, 35), (0, x1)] [(0, 0), (29, 35)] S Qr Qt) ∧ (¬ ((0 : Int) ≤ x1) → zEnds 118 198 10 [(29, 35), (0, x1)] [(0, 1), (29, 35)] S Qr Qt)) : zEnds 118 198 0 [(29, 35), (0, x1)] [] S Qr Qt := zwq_sound [10] 400 0 _ _ _ h
set_option maxRecDepth 20000 in
/-- DiskPoolModel.lose from 10 -/
theorem j_198_10 {x1 y0 : Int} {S : zS} {Qr Qt : Int → zS → Prop} (h : zEnds 118 181 0 [(29, 35), (0, y0), (0, 1)] [] S (fun v1 S1 => (v1 = 0 → Qr 0 (S1.1, S1.2.1, zupd S1.2.2 35 13 (z32 (x1 - 1)))) ∧ (¬ (v1 = 0) → Qr 0 S1)) Qt) : zEnds 118 198 10 [(29, 35), (0, x1)] [(0, y0), (29, 35)] S Qr Qt := zwq_sound [10] 400 10 _ _ _ h
set_option maxRecDepth 20000 in
/-- DiskPoolModel.off from 0 -/
theorem j_199 {S : zS} {Qr Qt : Int → zS → Prop} (h : (S.2.2 35 12 ≠ 0 → zEnds 118 199 13 [(29, 35)] [(0, 0), (29, 35)] S Qr Qt) ∧ (¬ (S.2.2 35 12 ≠ 0) → zEnds 118 199 13 [(29, 35)] [(0, 1), (29, 35)] S Qr Qt)) : zEnds 118 199 0 [(29, 35)] [] S Qr Qt := zwq_sound [13] 400 0 _ _ _ h
set_option maxRecDepth 20000 in
/-- DiskPoolModel.off from 13 -/
theorem j_199_13 {y0 : Int} {S : zS} {Qr Qt : Int → zS → Prop} (h : zEnds 118 181 0 [(29, 35), (0, y0), (0, 1)] [] S (fun v1 S1 => (v1 = 0 → ((0 : Int) = 0 ∨ (0 : Int) = 1) ∧ Qr 0 (S1.1, S1.2.1, zupd (zupd S1.2.2 35 12 0) 35 13 (-1))) ∧ (¬ (v1 = 0) → Qr 0 S1)) Qt) : zEnds 118 199 13 [(29, 35)] [(0, y0), (29, 35)] S Qr Qt := zwq_sound [13] 400 13 _ _ _ h
set_option maxRecDepth 20000 in
/-- DiskPoolModel.opens from 0 -/
theorem j_201 {S : zS} {Qr Qt : Int → zS → Prop} (h : zEnds 118 201 2 [(29, 35), (0, 0), (9, 0), (9, 0)] [] S Qr Qt) : zEnds 118 201 0 [(29, 35), (9, 0), (9, 0), (9, 0)] [] S Qr Qt := zwq_sound [48, 132] 400 0 _ _ _ h
set_option maxRecDepth 20000 in
/-- DiskPoolModel.opens from 2 -/
theorem j_201_2 {x1 : Int} {S : zS} {Qr Qt : Int → zS → Prop} (h : (S.2.2 35 1 ≤ x1 → zEnds 118 201 56 [(29, 35), (0, 0), (9, 0), (9, 0)] [] S Qr Qt) ∧ (¬ (S.2.2 35 1 ≤ x1) → zEnds 118 186 0 [(29, 35), (0, x1), (0, S.2.2 35 3), (9, 0), (9, 0)] [] S (fun v1 S1 => (v1 = 0 → zEnds 118 201 48 [(29, 35), (0, x1), (9, 0), (9, 0)] [] S1 Qr Qt) ∧ (¬ (v1 = 0) → zEnds 118 183 0 [(0, x1), (0, S1.2.2 35 3)] [] S1 (fun v2 S2 => (0 ≤ v2 ∧ v2 < S2.2.1 39) ∧ ((S2.2.2 39 v2 ≤ 0 → zEnds 118 201 48 [(29, 35), (0, x1), (9, 0), (9, 0)] [] S2 Qr Qt) ∧ (¬ (S2.2.2 39 v2 ≤ 0) → zEnds 118 200 0 [(29, 35), (0, x1), (9, 0), (9, 0), (9, 0), (9, 0), (9, 0), (9, 0), (9, 0)] [] S2 (fun v3 S3 => (v3 ≠ 0 → zEnds 118 201 48 [(29, 35), (0, x1), (9, 0), (9, 0)] [] S3 Qr Qt) ∧ (¬ (v3 ≠ 0) → ((0 : Int) = 0 ∨ (0 : Int) = 1) ∧ Qr 0 S3)) Qt))) Qt)) Qt)) : zEnds 118 201 2 [(29, 35), (0, x1), (9, 0), (9, 0)] [] S Qr Qt := zwq_sound [48, 132] 400 2 _ _ _ h
set_option maxRecDepth 20000 in
/-- DiskPoolModel.opens from 56 -/
theorem j_201_56 {x1 : Int} {S : zS} {Qr Qt : Int → zS → Prop} (h : (S.2.2 35 3 ≤ x1 → ((1 : Int) = 0 ∨ (1 : Int) = 1) ∧ Qr 1 S) ∧ (¬ (S.2.2 35 3 ≤ x1) → zEnds 118 201 74 [(29, 35), (0, x1), (0, z32 ((S.2.2 35 2) * (S.2.2 35 4))), (9, 0)] [] S Qr Qt)) : zEnds 118 201 56 [(29, 35), (0, x1), (9, 0), (9, 0)] [] S Qr Qt := zwq_sound [48, 132] 400 56 _ _ _ h
set_option maxRecDepth 20000 in
/-- DiskPoolModel.opens from 74 -/
theorem j_201_74 {x1 x2 : Int} {S : zS} {Qr Qt : Int → zS → Prop} (h : (S.2.2 35 1 ≤ x2 → zEnds 118 201 56 [(29, 35), (0, z32 (x1 + 1)), (9, 0), (9, 0)] [] S Qr Qt) ∧ (¬ (S.2.2 35 1 ≤ x2) → zEnds 118 184 0 [(29, 35), (0, x1), (0, x2)] [] S (fun v1 S1 => zEnds 118 192 0 [(29, 35), (0, x1), (0, v1), (9, 0)] [] S1 (fun v2 S2 => ((0 : Int) ≤ v2 → zEnds 118 201 132 [(29, 35), (0, x1), (0, x2), (0, v1)] [] S2 Qr Qt) ∧ (¬ ((0 : Int) ≤ v2) → zEnds 118 186 0 [(29, 35), (0, v1), (0, x1), (9, 0), (9, 0)] [] S2 (fun v3 S3 => (v3 = 0 → zEnds 118 201 132 [(29, 35), (0, x1), (0, x2), (0, v1)] [] S3 Qr Qt) ∧ (¬ (v3 = 0) → zEnds 118 183 0 [(0, v1), (0, x1)] [] S3 (fun v4 S4 => (0 ≤ v4 ∧ v4 < S4.2.1 39) ∧ ((S4.2.2 39 v4 ≤ 0 → zEnds 118 201 132 [(29, 35), (0, x1), (0, x2), (0, v1)] [] S4 Qr Qt) ∧ (¬ (S4.2.2 39 v4 ≤ 0) → zEnds 118 194 0 [(29, 35), (0, v1), (0, x1), (0, 0), (9, 0)] [] S4 (fun v5 S5 => (v5 ≠ 0 → zEnds 118 201 132 [(29, 35), (0, x1), (0, x2), (0, v1)] [] S5 Qr Qt) ∧ (¬ (v5 ≠ 0) → ((0 : Int) = 0 ∨ (0 : Int) = 1) ∧ Qr 0 S5)) Qt))) Qt)) Qt)) Qt) Qt)) : zEnds 118 201 74 [(29, 35), (0, x1), (0, x2), (9, 0)] [] S Qr Qt := zwq_sound [48, 132] 400 74 _ _ _ h
set_option maxRecDepth 20000 in
/-- DiskPoolModel.opens from 48 -/
theorem j_201_48 {x1 : Int} {S : zS} {Qr Qt : Int → zS → Prop} (h : zEnds 118 201 2 [(29, 35), (0, z32 (x1 + 1)), (9, 0), (9, 0)] [] S Qr Qt) : zEnds 118 201 48 [(29, 35), (0, x1), (9, 0), (9, 0)] [] S Qr Qt := zwq_sound [48, 132] 400 48 _ _ _ h
set_option maxRecDepth 20000 in
/-- DiskPoolModel.opens from 132 -/
theorem j_201_132 {x1 x2 x3 : Int} {S : zS} {Qr Qt : Int → zS → Prop} (h : zEnds 118 201 74 [(29, 35), (0, x1), (0, z32 (x2 + 1)), (9, 0)] [] S Qr Qt) : zEnds 118 201 132 [(29, 35), (0, x1), (0, x2), (0, x3)] [] S Qr Qt := zwq_sound [48, 132] 400 132 _ _ _ h
set_option maxRecDepth 20000 in
/-- DiskPoolModel.commits from 0 -/
theorem j_204 {S : zS} {Qr Qt : Int → zS → Prop} (h : zEnds 118 204 5 [(29, 35), (0, 0), (0, 25), (9, 0)] [] S Qr Qt) : zEnds 118 204 0 [(29, 35), (9, 0), (9, 0), (9, 0)] [] S Qr Qt := zwq_sound [65, 106, 130, 131, 132, 168, 194, 195, 196] 400 0 _ _ _ h
set_option maxRecDepth 20000 in
/-- DiskPoolModel.commits from 5 -/
theorem j_204_5 {x1 x2 : Int} {S : zS} {Qr Qt : Int → zS → Prop} (h : zEnds 118 185 0 [(29, 35)] [] S (fun v1 S1 => (v1 ≤ x2 → zEnds 118 204 75 [(29, 35), (0, x1), (0, 1), (0, 0)] [] S1 Qr Qt) ∧ (¬ (v1 ≤ x2) → zEnds 118 219 0 [(29, 35), (0, x2), (9, 0), (9, 0)] [] S1 (fun v2 S2 => (v2 ≠ 0 → (0 ≤ x1 ∧ x1 < S2.2.1 51) ∧ zEnds 118 204 33 [(29, 35), (0, x1), (0, x2), (0, 0)] [] (S2.1, S2.2.1, zupd S2.2.2 51 x1 x2) Qr Qt) ∧ (¬ (v2 ≠ 0) → zEnds 118 204 65 [(29, 35), (0, x1), (0, x2), (9, 0)] [] S2 Qr Qt)) Qt)) Qt) : zEnds 118 204 5 [(29, 35), (0, x1), (0, x2), (9, 0)] [] S Qr Qt := zwq_sound [65, 106, 130, 131, 132, 168, 194, 195, 196] 400 5 _ _ _ h
set_option maxRecDepth 20000 in
/-- DiskPoolModel.commits from 33 -/
theorem j_204_33 {x1 x2 x3 : Int} {S : zS} {Qr Qt : Int → zS → Prop} (h : ((64 : Int) ≤ x3 → zEnds 118 204 65 [(29, 35), (0, z32 (x1 + 1)), (0, x2), (0, x3)] [] S Qr Qt) ∧ (¬ ((64 : Int) ≤ x3) → zEnds 118 218 0 [(29, 35), (0, x2), (0, x3)] [] S (fun v1 S1 => (0 ≤ z32 (z32 (64 * x1) + x3) ∧ z32 (z32 (64 * x1) + x3) < S1.2.1 52) ∧ zEnds 118 204 33 [(29, 35), (0, x1), (0, x2), (0, z32 (x3 + 1))] [] (S1.1, S1.2.1, zupd S1.2.2 52 (z32 (z32 (64 * x1) + x3)) v1) Qr Qt) Qt)) : zEnds 118 204 33 [(29, 35), (0, x1), (0, x2), (0, x3)] [] S Qr Qt := zwq_sound [65, 106, 130, 131, 132, 168, 194, 195, 196] 400 33 _ _ _ h
set_option maxRecDepth 20000 in
/-- DiskPoolModel.commits from 75 -/
theorem j_204_75 {x1 x2 x3 : Int} {S : zS} {Qr Qt : Int → zS → Prop} (h : (x1 ≤ x3 → zEnds 118 204 106 [(29, 35), (0, x1), (0, x2), (0, x3)] [] S Qr Qt) ∧ (¬ (x1 ≤ x3) → (x2 = 0 → zEnds 118 204 106 [(29, 35), (0, x1), (0, x2), (0, x3)] [] S Qr Qt) ∧ (¬ (x2 = 0) → zEnds 118 197 0 [(29, 35), (0, z32 (1 + x3)), (10, 52), (0, z32 (64 * x3)), (9, 0), (9, 0), (9, 0), (9, 0), (9, 0), (9, 0), (9, 0)] [] S (fun v1 S1 => zEnds 118 204 75 [(29, 35), (0, x1), (0, v1), (0, z32 (x3 + 1))] [] S1 Qr Qt) Qt))) : zEnds 118 204 75 [(29, 35), (0, x1), (0, x2), (0, x3)] [] S Qr Qt := zwq_sound [65, 106, 130, 131, 132, 168, 194, 195, 196] 400 75 _ _ _ h
set_option maxRecDepth 20000 in
/-- DiskPoolModel.commits from 134 -/
theorem j_204_134 {x1 x2 x3 : Int} {S : zS} {Qr Qt : Int → zS → Prop} (h : (x1 ≤ x3 → zEnds 118 204 168 [(29, 35), (0, x1), (0, x2), (0, x3)] [] S Qr Qt) ∧ (¬ (x1 ≤ x3) → (x2 = 0 → zEnds 118 204 168 [(29, 35), (0, x1), (0, x2), (0, x3)] [] S Qr Qt) ∧ (¬ (x2 = 0) → (0 ≤ x3 ∧ x3 < S.2.1 51) ∧ zEnds 118 197 0 [(29, 35), (0, S.2.2 51 x3), (10, 52), (0, z32 (64 * x3)), (9, 0), (9, 0), (9, 0), (9, 0), (9, 0), (9, 0), (9, 0)] [] S (fun v1 S1 => zEnds 118 204 134 [(29, 35), (0, x1), (0, v1), (0, z32 (x3 + 1))] [] S1 Qr Qt) Qt))) : zEnds 118 204 134 [(29, 35), (0, x1), (0, x2), (0, x3)] [] S Qr Qt := zwq_sound [65, 106, 130, 131, 132, 168, 194, 195, 196] 400 134 _ _ _ h
set_option maxRecDepth 20000 in
/-- DiskPoolModel.commits from 65 -/
theorem j_204_65 {x1 x2 : Int} {S : zS} {Qr Qt : Int → zS → Prop} (h : zEnds 118 204 5 [(29, 35), (0, x1), (0, z32 (x2 + 1)), (9, 0)] [] S Qr Qt) : zEnds 118 204 65 [(29, 35), (0, x1), (0, x2), (9, 0)] [] S Qr Qt := zwq_sound [65, 106, 130, 131, 132, 168, 194, 195, 196] 400 65 _ _ _ h
set_option maxRecDepth 20000 in
/-- DiskPoolModel.commits from 106 -/
theorem j_204_106 {x1 x2 x3 : Int} {S : zS} {Qr Qt : Int → zS → Prop} (h : (x1 ≤ 0 → zEnds 118 204 132 [(29, 35), (0, x1), (0, x2), (0, x3)] [] S Qr Qt) ∧ (¬ (x1 ≤ 0) → (x2 = 0 → zEnds 118 204 130 [(29, 35), (0, x1), (0, x2), (0, x3)] [] S Qr Qt) ∧ (¬ (x2 = 0) → zEnds 118 203 0 [(29, 35)] [] S (fun v1 S1 => zEnds 118 202 0 [(29, 35), (1, v1), (9, 0), (0, x1), (9, 0)] [] S1 (fun v2 S2 => (v2 = 0 → zEnds 118 204 130 [(29, 35), (0, x1), (0, x2), (0, x3)] [] S2 Qr Qt) ∧ (¬ (v2 = 0) → zEnds 118 204 131 [(29, 35), (0, x1), (0, x2), (0, x3)] [(0, 1)] S2 Qr Qt)) Qt) Qt))) : zEnds 118 204 106 [(29, 35), (0, x1), (0, x2), (0, x3)] [] S Qr Qt := zwq_sound [65, 106, 130, 131, 132, 168, 194, 195, 196] 400 106 _ _ _ h
set_option maxRecDepth 20000 in
/-- DiskPoolModel.commits from 168 -/
theorem j_204_168 {x1 x2 x3 : Int} {S : zS} {Qr Qt : Int → zS → Prop} (h : (x1 ≤ 0 → zEnds 118 204 196 [(29, 35), (0, x1), (0, x2), (0, x3)] [] S Qr Qt) ∧ (¬ (x1 ≤ 0) → (x2 = 0 → zEnds 118 204 194 [(29, 35), (0, x1), (0, x2), (0, x3)] [] S Qr Qt) ∧ (¬ (x2 = 0) → zEnds 118 203 0 [(29, 35)] [] S (fun v1 S1 => zEnds 118 202 0 [(29, 35), (1, z64 (v1 + 1)), (9, 0), (0, 0), (9, 0)] [] S1 (fun v2 S2 => (v2 = 0 → zEnds 118 204 194 [(29, 35), (0, x1), (0, x2), (0, x3)] [] S2 Qr Qt) ∧ (¬ (v2 = 0) → zEnds 118 204 195 [(29, 35), (0, x1), (0, x2), (0, x3)] [(0, 1)] S2 Qr Qt)) Qt) Qt))) : zEnds 118 204 168 [(29, 35), (0, x1), (0, x2), (0, x3)] [] S Qr Qt := zwq_sound [65, 106, 130, 131, 132, 168, 194, 195, 196] 400 168 _ _ _ h
set_option maxRecDepth 20000 in
/-- DiskPoolModel.commits from 132 -/
theorem j_204_132 {x1 x2 x3 : Int} {S : zS} {Qr Qt : Int → zS → Prop} (h : zEnds 118 204 134 [(29, 35), (0, x1), (0, x2), (0, 0)] [] S Qr Qt) : zEnds 118 204 132 [(29, 35), (0, x1), (0, x2), (0, x3)] [] S Qr Qt := zwq_sound [65, 106, 130, 131, 132, 168, 194, 195, 196] 400 132 _ _ _ h
set_option maxRecDepth 20000 in
/-- DiskPoolModel.commits from 130 -/
theorem j_204_130 {x1 x2 x3 : Int} {S : zS} {Qr Qt : Int → zS → Prop} (h : zEnds 118 204 131 [(29, 35), (0, x1), (0, x2), (0, x3)] [(0, 0)] S Qr Qt) : zEnds 118 204 130 [(29, 35), (0, x1), (0, x2), (0, x3)] [] S Qr Qt := zwq_sound [65, 106, 130, 131, 132, 168, 194, 195, 196] 400 130 _ _ _ h
set_option maxRecDepth 20000 in
/-- DiskPoolModel.commits from 131 -/
theorem j_204_131 {x1 x2 x3 y0 : Int} {S : zS} {Qr Qt : Int → zS → Prop} (h : zEnds 118 204 132 [(29, 35), (0, x1), (0, y0), (0, x3)] [] S Qr Qt) : zEnds 118 204 131 [(29, 35), (0, x1), (0, x2), (0, x3)] [(0, y0)] S Qr Qt := zwq_sound [65, 106, 130, 131, 132, 168, 194, 195, 196] 400 131 _ _ _ h
set_option maxRecDepth 20000 in
/-- DiskPoolModel.commits from 196 -/
theorem j_204_196 {x1 x2 x3 : Int} {S : zS} {Qr Qt : Int → zS → Prop} (h : (x2 ≠ 0 → Qr x1 (S.1, S.2.1, zupd S.2.2 35 28 0)) ∧ (¬ (x2 ≠ 0) → Qr (-9) S)) : zEnds 118 204 196 [(29, 35), (0, x1), (0, x2), (0, x3)] [] S Qr Qt := zwq_sound [65, 106, 130, 131, 132, 168, 194, 195, 196] 400 196 _ _ _ h
set_option maxRecDepth 20000 in
/-- DiskPoolModel.commits from 194 -/
theorem j_204_194 {x1 x2 x3 : Int} {S : zS} {Qr Qt : Int → zS → Prop} (h : zEnds 118 204 195 [(29, 35), (0, x1), (0, x2), (0, x3)] [(0, 0)] S Qr Qt) : zEnds 118 204 194 [(29, 35), (0, x1), (0, x2), (0, x3)] [] S Qr Qt := zwq_sound [65, 106, 130, 131, 132, 168, 194, 195, 196] 400 194 _ _ _ h
set_option maxRecDepth 20000 in
/-- DiskPoolModel.commits from 195 -/
theorem j_204_195 {x1 x2 x3 y0 : Int} {S : zS} {Qr Qt : Int → zS → Prop} (h : zEnds 118 204 196 [(29, 35), (0, x1), (0, y0), (0, x3)] [] S Qr Qt) : zEnds 118 204 195 [(29, 35), (0, x1), (0, x2), (0, x3)] [(0, y0)] S Qr Qt := zwq_sound [65, 106, 130, 131, 132, 168, 194, 195, 196] 400 195 _ _ _ h
set_option maxRecDepth 20000 in
/-- DiskPoolModel.recovers from 0 -/
theorem j_205 {S : zS} {Qr Qt : Int → zS → Prop} (h : (0 ≤ (4 : Int) ∧ 4 < S.2.1 43) ∧ zEnds 118 205 11 [(29, 35), (0, S.2.2 43 4), (0, 1), (0, 0)] [] S Qr Qt) : zEnds 118 205 0 [(29, 35), (9, 0), (9, 0), (9, 0)] [] S Qr Qt := zwq_sound [67, 89, 93] 400 0 _ _ _ h
set_option maxRecDepth 20000 in
/-- DiskPoolModel.recovers from 11 -/
theorem j_205_11 {x1 x2 x3 : Int} {S : zS} {Qr Qt : Int → zS → Prop} (h : (x1 ≤ x3 → zEnds 118 205 67 [(29, 35), (0, x1), (0, x2), (0, x3)] [] S Qr Qt) ∧ (¬ (x1 ≤ x3) → (x2 = 0 → zEnds 118 205 67 [(29, 35), (0, x1), (0, x2), (0, x3)] [] S Qr Qt) ∧ (¬ (x2 = 0) → (0 ≤ z32 (5 + z32 (2 * x3)) ∧ z32 (5 + z32 (2 * x3)) < S.2.1 43) ∧ ((0 ≤ z32 (6 + z32 (2 * x3)) ∧ z32 (6 + z32 (2 * x3)) < S.2.1 43) ∧ zEnds 118 197 0 [(29, 35), (0, zor (S.2.2 43 (z32 (5 + z32 (2 * x3)))) (zshl (S.2.2 43 (z32 (6 + z32 (2 * x3)))) 8)), (10, 43), (0, z32 (64 + z32 (64 * x3))), (9, 0), (9, 0), (9, 0), (9, 0), (9, 0), (9, 0), (9, 0)] [] S (fun v1 S1 => zEnds 118 205 11 [(29, 35), (0, x1), (0, v1), (0, z32 (x3 + 1))] [] S1 Qr Qt) Qt)))) : zEnds 118 205 11 [(29, 35), (0, x1), (0, x2), (0, x3)] [] S Qr Qt := zwq_sound [67, 89, 93] 400 11 _ _ _ h
set_option maxRecDepth 20000 in
/-- DiskPoolModel.recovers from 67 -/
theorem j_205_67 {x1 x2 x3 : Int} {S : zS} {Qr Qt : Int → zS → Prop} (h : (x1 = 0 → zEnds 118 205 89 [(29, 35), (0, x1), (0, x2), (0, x3)] [] S Qr Qt) ∧ (¬ (x1 = 0) → (x2 = 0 → zEnds 118 205 93 [(29, 35), (0, x1), (0, x2), (0, x3)] [] S Qr Qt) ∧ (¬ (x2 = 0) → zEnds 118 203 0 [(29, 35)] [] S (fun v1 S1 => zEnds 118 202 0 [(29, 35), (1, z64 (v1 + 1)), (9, 0), (0, 0), (9, 0)] [] S1 (fun v2 S2 => (v2 = 0 → zEnds 118 205 93 [(29, 35), (0, x1), (0, x2), (0, x3)] [] S2 Qr Qt) ∧ (¬ (v2 = 0) → zEnds 118 205 89 [(29, 35), (0, x1), (0, x2), (0, x3)] [] S2 Qr Qt)) Qt) Qt))) : zEnds 118 205 67 [(29, 35), (0, x1), (0, x2), (0, x3)] [] S Qr Qt := zwq_sound [67, 89, 93] 400 67 _ _ _ h
set_option maxRecDepth 20000 in
/-- DiskPoolModel.recovers from 89 -/
theorem j_205_89 {x1 x2 x3 : Int} {S : zS} {Qr Qt : Int → zS → Prop} (h : ((1 : Int) = 0 ∨ (1 : Int) = 1) ∧ Qr 1 S) : zEnds 118 205 89 [(29, 35), (0, x1), (0, x2), (0, x3)] [] S Qr Qt := zwq_sound [67, 89, 93] 400 89 _ _ _ h
set_option maxRecDepth 20000 in
/-- DiskPoolModel.recovers from 93 -/
theorem j_205_93 {x1 x2 x3 : Int} {S : zS} {Qr Qt : Int → zS → Prop} (h : ((0 : Int) = 0 ∨ (0 : Int) = 1) ∧ Qr 0 S) : zEnds 118 205 93 [(29, 35), (0, x1), (0, x2), (0, x3)] [] S Qr Qt := zwq_sound [67, 89, 93] 400 93 _ _ _ h
set_option maxRecDepth 20000 in
/-- DiskPoolModel.open from 0 -/
theorem j_207 {S : zS} {Qr Qt : Int → zS → Prop} (h : zEnds 118 181 0 [(29, 35), (0, S.2.2 35 12), (0, 1)] [] S (fun v1 S1 => (v1 = 0 → zEnds 118 207 16 [(29, 35), (0, 0), (9, 0)] [] S1 Qr Qt) ∧ (¬ (v1 = 0) → ((0 : Int) = 0 ∨ (0 : Int) = 1) ∧ Qr 0 S1)) Qt) : zEnds 118 207 0 [(29, 35), (9, 0), (9, 0)] [] S Qr Qt := zwq_sound [] 400 0 _ _ _ h
set_option maxRecDepth 20000 in
/-- DiskPoolModel.open from 16 -/
theorem j_207_16 {x1 : Int} {S : zS} {Qr Qt : Int → zS → Prop} (h : (S.2.2 35 3 ≤ x1 → ((1 : Int) = 0 ∨ (1 : Int) = 1) ∧ zEnds 118 201 0 [(29, 35), (9, 0), (9, 0), (9, 0)] [] (S.1, S.2.1, zupd (zupd S.2.2 35 12 1) 35 15 0) (fun v1 S1 => (v1 ≠ 0 → ((0 : Int) = 0 ∨ (0 : Int) = 1) ∧ zEnds 118 205 0 [(29, 35), (9, 0), (9, 0), (9, 0)] [] (S1.1, S1.2.1, zupd S1.2.2 35 20 0) (fun v2 S2 => (v2 ≠ 0 → zEnds 118 206 0 [(29, 35), (9, 0), (9, 0), (9, 0), (9, 0), (9, 0), (9, 0)] [] S2 (fun v3 S3 => ((1 : Int) = 0 ∨ (1 : Int) = 1) ∧ Qr 1 (S3.1, S3.2.1, zupd (zupd S3.2.2 35 28 0) 35 29 0)) Qt) ∧ (¬ (v2 ≠ 0) → ((0 : Int) = 0 ∨ (0 : Int) = 1) ∧ Qr 0 S2)) Qt) ∧ (¬ (v1 ≠ 0) → ((0 : Int) = 0 ∨ (0 : Int) = 1) ∧ Qr 0 S1)) Qt) ∧ (¬ (S.2.2 35 3 ≤ x1) → zEnds 118 207 26 [(29, 35), (0, x1), (0, 0)] [] S Qr Qt)) : zEnds 118 207 16 [(29, 35), (0, x1), (9, 0)] [] S Qr Qt := zwq_sound [] 400 16 _ _ _ h
set_option maxRecDepth 20000 in
/-- DiskPoolModel.open from 26 -/
theorem j_207_26 {x1 x2 : Int} {S : zS} {Qr Qt : Int → zS → Prop} (h : (z32 ((S.2.2 35 2) * (S.2.2 35 4)) ≤ x2 → zEnds 118 207 16 [(29, 35), (0, z32 (x1 + 1)), (9, 0)] [] S Qr Qt) ∧ (¬ (z32 ((S.2.2 35 2) * (S.2.2 35 4)) ≤ x2) → zEnds 118 187 0 [(29, 35), (0, x1), (0, x2), (9, 0), (9, 0), (9, 0)] [] S (fun v1 S1 => (0 ≤ z32 (z32 (16 * x1) + x2) ∧ z32 (z32 (16 * x1) + x2) < S1.2.1 41) ∧ zEnds 118 207 26 [(29, 35), (0, x1), (0, z32 (x2 + 1))] [] (S1.1, S1.2.1, zupd S1.2.2 41 (z32 (z32 (16 * x1) + x2)) v1) Qr Qt) Qt)) : zEnds 118 207 26 [(29, 35), (0, x1), (0, x2)] [] S Qr Qt := zwq_sound [] 400 26 _ _ _ h
set_option maxRecDepth 20000 in
/-- DiskPoolModel.fail from 0 -/
theorem j_208 {x1 : Int} {S : zS} {Qr Qt : Int → zS → Prop} (h : (x1 < 0 → zEnds 118 208 13 [(29, 35), (0, x1), (9, 0), (9, 0), (9, 0)] [(29, 35)] S Qr Qt) ∧ (¬ (x1 < 0) → (x1 < S.2.2 35 1 → zEnds 118 208 18 [(29, 35), (0, x1), (9, 0), (9, 0), (9, 0)] [(0, 0), (29, 35)] S Qr Qt) ∧ (¬ (x1 < S.2.2 35 1) → zEnds 118 208 13 [(29, 35), (0, x1), (9, 0), (9, 0), (9, 0)] [(29, 35)] S Qr Qt))) : zEnds 118 208 0 [(29, 35), (0, x1), (9, 0), (9, 0), (9, 0)] [] S Qr Qt := zwq_sound [13, 18, 112] 400 0 _ _ _ h
set_option maxRecDepth 20000 in
/-- DiskPoolModel.fail from 42 -/
theorem j_208_42 {S : zS} {Qr Qt : Int → zS → Prop} (h : ((0 : Int) = 0 ∨ (0 : Int) = 1) ∧ Qr 0 S) : zEnds 118 208 42 [(9, 0), (9, 0), (9, 0), (9, 0), (9, 0)] [] S Qr Qt := zwq_sound [13, 18, 112] 400 42 _ _ _ h
set_option maxRecDepth 20000 in
/-- DiskPoolModel.fail from 111 -/
theorem j_208_111 {x1 : Int} {S : zS} {Qr Qt : Int → zS → Prop} (h : zEnds 118 208 112 [(29, 35), (0, x1), (9, 0), (9, 0), (9, 0)] [(0, 0)] S Qr Qt) : zEnds 118 208 111 [(29, 35), (0, x1), (9, 0), (9, 0), (9, 0)] [] S Qr Qt := zwq_sound [13, 18, 112] 400 111 _ _ _ h
set_option maxRecDepth 20000 in
/-- DiskPoolModel.fail from 123 -/
theorem j_208_123 {x1 x3 x4 : Int} {S : zS} {Qr Qt : Int → zS → Prop} (h : (z32 (16 * (S.2.2 35 3)) ≤ x4 → zEnds 118 208 184 [(29, 35), (9, 0), (9, 0), (0, x3), (9, 0)] [] S Qr Qt) ∧ (¬ (z32 (16 * (S.2.2 35 3)) ≤ x4) → (S.2.2 35 12 = 0 → zEnds 118 208 184 [(29, 35), (9, 0), (9, 0), (0, x3), (9, 0)] [] S Qr Qt) ∧ (¬ (S.2.2 35 12 = 0) → ((16 : Int) ≠ 0) ∧ ((z32 ((S.2.2 35 2) * (S.2.2 35 4)) ≤ zrem x4 16 → zEnds 118 208 178 [(29, 35), (0, x1), (9, 0), (0, x3), (0, x4)] [] S Qr Qt) ∧ (¬ (z32 ((S.2.2 35 2) * (S.2.2 35 4)) ≤ zrem x4 16) → (0 ≤ x4 ∧ x4 < S.2.1 41) ∧ ((S.2.2 41 x4 ≠ x1 → zEnds 118 208 178 [(29, 35), (0, x1), (9, 0), (0, x3), (0, x4)] [] S Qr Qt) ∧ (¬ (S.2.2 41 x4 ≠ x1) → (0 ≤ x4 ∧ x4 < S.2.1 41) ∧ zEnds 118 208 178 [(29, 35), (0, x1), (9, 0), (0, x3), (0, x4)] [] (S.1, S.2.1, zupd S.2.2 41 x4 (-1)) Qr Qt))))))) : zEnds 118 208 123 [(29, 35), (0, x1), (9, 0), (0, x3), (0, x4)] [] S Qr Qt := zwq_sound [13, 18, 112] 400 123 _ _ _ h
set_option maxRecDepth 20000 in
/-- DiskPoolModel.fail from 178 -/
theorem j_208_178 {x1 x3 x4 : Int} {S : zS} {Qr Qt : Int → zS → Prop} (h : zEnds 118 208 123 [(29, 35), (0, x1), (9, 0), (0, x3), (0, z32 (x4 + 1))] [] S Qr Qt) : zEnds 118 208 178 [(29, 35), (0, x1), (9, 0), (0, x3), (0, x4)] [] S Qr Qt := zwq_sound [13, 18, 112] 400 178 _ _ _ h
set_option maxRecDepth 20000 in
/-- DiskPoolModel.fail from 184 -/
theorem j_208_184 {x3 : Int} {S : zS} {Qr Qt : Int → zS → Prop} (h : (x3 ≠ 0 → zEnds 118 208 193 [(29, 35), (9, 0), (9, 0), (9, 0), (0, 0)] [] S Qr Qt) ∧ (¬ (x3 ≠ 0) → ((1 : Int) = 0 ∨ (1 : Int) = 1) ∧ Qr 1 S)) : zEnds 118 208 184 [(29, 35), (9, 0), (9, 0), (0, x3), (9, 0)] [] S Qr Qt := zwq_sound [13, 18, 112] 400 184 _ _ _ h
set_option maxRecDepth 20000 in
/-- DiskPoolModel.fail from 193 -/
theorem j_208_193 {x4 : Int} {S : zS} {Qr Qt : Int → zS → Prop} (h : ((64 : Int) ≤ x4 → ((0 : Int) = 0 ∨ (0 : Int) = 1) ∧ (((1 : Int) = 0 ∨ (1 : Int) = 1) ∧ Qr 1 (S.1, S.2.1, zupd S.2.2 35 20 0))) ∧ (¬ ((64 : Int) ≤ x4) → (0 ≤ x4 ∧ x4 < S.2.1 44) ∧ ((0 ≤ z32 (z32 (64 * (S.2.2 35 19)) + x4) ∧ z32 (z32 (64 * (S.2.2 35 19)) + x4) < S.2.1 43) ∧ zEnds 118 208 193 [(29, 35), (9, 0), (9, 0), (9, 0), (0, z32 (x4 + 1))] [] (S.1, S.2.1, zupd S.2.2 43 (z32 (z32 (64 * (S.2.2 35 19)) + x4)) (S.2.2 44 x4)) Qr Qt))) : zEnds 118 208 193 [(29, 35), (9, 0), (9, 0), (9, 0), (0, x4)] [] S Qr Qt := zwq_sound [13, 18, 112] 400 193 _ _ _ h
set_option maxRecDepth 20000 in
/-- DiskPoolModel.fail from 13 -/
theorem j_208_13 {x1 : Int} {S : zS} {Qr Qt : Int → zS → Prop} (h : zEnds 118 208 18 [(29, 35), (0, x1), (9, 0), (9, 0), (9, 0)] [(0, 1), (29, 35)] S Qr Qt) : zEnds 118 208 13 [(29, 35), (0, x1), (9, 0), (9, 0), (9, 0)] [(29, 35)] S Qr Qt := zwq_sound [13, 18, 112] 400 13 _ _ _ h
set_option maxRecDepth 20000 in
/-- DiskPoolModel.fail from 18 -/
theorem j_208_18 {x1 y0 : Int} {S : zS} {Qr Qt : Int → zS → Prop} (h : zEnds 118 181 0 [(29, 35), (0, y0), (0, 1)] [] S (fun v1 S1 => (v1 ≠ 0 → zEnds 118 208 42 [(9, 0), (9, 0), (9, 0), (9, 0), (9, 0)] [] S1 Qr Qt) ∧ (¬ (v1 ≠ 0) → (0 ≤ x1 ∧ x1 < S1.2.1 37) ∧ ((S1.2.2 37 x1 = 0 → zEnds 118 208 42 [(9, 0), (9, 0), (9, 0), (9, 0), (9, 0)] [] S1 Qr Qt) ∧ (¬ (S1.2.2 37 x1 = 0) → zEnds 118 191 0 [(29, 35), (0, x1), (9, 0), (9, 0)] [] S1 (fun v2 S2 => (v2 = 0 → ((z32 (S2.2.2 35 2 - 1) : Int) ≠ 0) ∧ ((S2.2.2 35 12 ≠ 0 → zEnds 118 208 111 [(29, 35), (0, x1), (9, 0), (9, 0), (9, 0)] [] S2 Qr Qt) ∧ (¬ (S2.2.2 35 12 ≠ 0) → (S2.2.2 35 20 = 0 → zEnds 118 208 111 [(29, 35), (0, x1), (9, 0), (9, 0), (9, 0)] [] S2 Qr Qt) ∧ (¬ (S2.2.2 35 20 = 0) → ((S2.2.2 35 4 : Int) ≠ 0) ∧ (((S2.2.2 35 4 : Int) ≠ 0) ∧ (((z32 (S2.2.2 35 2 - 1) : Int) ≠ 0) ∧ zEnds 118 187 0 [(29, 35), (0, zdiv (zdiv (S2.2.2 35 19) (z32 (S2.2.2 35 2 - 1))) (S2.2.2 35 4)), (0, z32 (z32 ((S2.2.2 35 2) * (zrem (zdiv (S2.2.2 35 19) (z32 (S2.2.2 35 2 - 1))) (S2.2.2 35 4))) + zrem (S2.2.2 35 19) (z32 (S2.2.2 35 2 - 1)))), (9, 0), (9, 0), (9, 0)] [] S2 (fun v3 S3 => (v3 ≠ x1 → zEnds 118 208 111 [(29, 35), (0, x1), (9, 0), (9, 0), (9, 0)] [] S3 Qr Qt) ∧ (¬ (v3 ≠ x1) → zEnds 118 208 112 [(29, 35), (0, x1), (0, zdiv (S2.2.2 35 19) (z32 (S2.2.2 35 2 - 1))), (9, 0), (9, 0)] [(0, 1)] S3 Qr Qt)) Qt)))))) ∧ (¬ (v2 = 0) → zEnds 118 208 42 [(9, 0), (9, 0), (9, 0), (9, 0), (9, 0)] [] S2 Qr Qt)) Qt)))) Qt) : zEnds 118 208 18 [(29, 35), (0, x1), (9, 0), (9, 0), (9, 0)] [(0, y0), (29, 35)] S Qr Qt := zwq_sound [13, 18, 112] 400 18 _ _ _ h
set_option maxRecDepth 20000 in
/-- DiskPoolModel.fail from 112 -/
theorem j_208_112 {x1 y0 : Int} {S : zS} {Qr Qt : Int → zS → Prop} (h : ((0 ≤ x1 ∧ x1 < S.2.1 37) ∧ ((0 : Int) = 0 ∨ (0 : Int) = 1)) ∧ zEnds 118 208 123 [(29, 35), (0, x1), (9, 0), (0, y0), (0, 0)] [] (S.1, S.2.1, zupd S.2.2 37 x1 0) Qr Qt) : zEnds 118 208 112 [(29, 35), (0, x1), (9, 0), (9, 0), (9, 0)] [(0, y0)] S Qr Qt := zwq_sound [13, 18, 112] 400 112 _ _ _ h
set_option maxRecDepth 20000 in
/-- DiskPoolModel.replace from 0 -/
theorem j_209 {x1 : Int} {S : zS} {Qr Qt : Int → zS → Prop} (h : (x1 < 0 → zEnds 118 209 13 [(29, 35), (0, x1), (9, 0), (9, 0)] [(29, 35)] S Qr Qt) ∧ (¬ (x1 < 0) → (x1 < S.2.2 35 1 → zEnds 118 209 18 [(29, 35), (0, x1), (9, 0), (9, 0)] [(0, 0), (29, 35)] S Qr Qt) ∧ (¬ (x1 < S.2.2 35 1) → zEnds 118 209 13 [(29, 35), (0, x1), (9, 0), (9, 0)] [(29, 35)] S Qr Qt))) : zEnds 118 209 0 [(29, 35), (0, x1), (9, 0), (9, 0)] [] S Qr Qt := zwq_sound [13, 18, 34] 400 0 _ _ _ h
set_option maxRecDepth 20000 in
/-- DiskPoolModel.replace from 45 -/
theorem j_209_45 {x1 x2 : Int} {S : zS} {Qr Qt : Int → zS → Prop} (h : (S.2.2 35 3 < x2 → ((1 : Int) = 0 ∨ (1 : Int) = 1) ∧ Qr 1 S) ∧ (¬ (S.2.2 35 3 < x2) → zEnds 118 183 0 [(0, x1), (0, x2)] [] S (fun v1 S1 => ((0 ≤ v1 ∧ v1 < S1.2.1 38) ∧ ((0 : Int) = 0 ∨ (0 : Int) = 1)) ∧ zEnds 118 183 0 [(0, x1), (0, x2)] [] (S1.1, S1.2.1, zupd S1.2.2 38 v1 0) (fun v2 S2 => (0 ≤ v2 ∧ v2 < S2.2.1 39) ∧ zEnds 118 183 0 [(0, x1), (0, x2)] [] (S2.1, S2.2.1, zupd S2.2.2 39 v2 0) (fun v3 S3 => zEnds 118 209 84 [(29, 35), (0, x1), (0, x2), (0, z32 (70 * v3))] [] S3 Qr Qt) Qt) Qt) Qt)) : zEnds 118 209 45 [(29, 35), (0, x1), (0, x2), (9, 0)] [] S Qr Qt := zwq_sound [13, 18, 34] 400 45 _ _ _ h
set_option maxRecDepth 20000 in
/-- DiskPoolModel.replace from 84 -/
theorem j_209_84 {x1 x2 x3 : Int} {S : zS} {Qr Qt : Int → zS → Prop} (h : zEnds 118 183 0 [(0, x1), (0, x2)] [] S (fun v1 S1 => (z32 (z32 (70 * v1) + 70) ≤ x3 → zEnds 118 209 45 [(29, 35), (0, x1), (0, z32 (x2 + 1)), (9, 0)] [] S1 Qr Qt) ∧ (¬ (z32 (z32 (70 * v1) + 70) ≤ x3) → (0 ≤ x3 ∧ x3 < S1.2.1 40) ∧ zEnds 118 209 84 [(29, 35), (0, x1), (0, x2), (0, z32 (x3 + 1))] [] (S1.1, S1.2.1, zupd S1.2.2 40 x3 (zi2b 0)) Qr Qt)) Qt) : zEnds 118 209 84 [(29, 35), (0, x1), (0, x2), (0, x3)] [] S Qr Qt := zwq_sound [13, 18, 34] 400 84 _ _ _ h
set_option maxRecDepth 20000 in
/-- DiskPoolModel.replace from 13 -/
theorem j_209_13 {x1 : Int} {S : zS} {Qr Qt : Int → zS → Prop} (h : zEnds 118 209 18 [(29, 35), (0, x1), (9, 0), (9, 0)] [(0, 1), (29, 35)] S Qr Qt) : zEnds 118 209 13 [(29, 35), (0, x1), (9, 0), (9, 0)] [(29, 35)] S Qr Qt := zwq_sound [13, 18, 34] 400 13 _ _ _ h
set_option maxRecDepth 20000 in
/-- DiskPoolModel.replace from 18 -/
theorem j_209_18 {x1 y0 : Int} {S : zS} {Qr Qt : Int → zS → Prop} (h : zEnds 118 181 0 [(29, 35), (0, y0), (0, 1)] [] S (fun v1 S1 => (v1 ≠ 0 → zEnds 118 209 34 [(29, 35), (0, x1), (9, 0), (9, 0)] [] S1 Qr Qt) ∧ (¬ (v1 ≠ 0) → (0 ≤ x1 ∧ x1 < S1.2.1 37) ∧ ((S1.2.2 37 x1 = 0 → ((0 ≤ x1 ∧ x1 < S1.2.1 37) ∧ ((1 : Int) = 0 ∨ (1 : Int) = 1)) ∧ zEnds 118 209 45 [(29, 35), (0, x1), (0, 0), (9, 0)] [] (S1.1, S1.2.1, zupd S1.2.2 37 x1 1) Qr Qt) ∧ (¬ (S1.2.2 37 x1 = 0) → zEnds 118 209 34 [(29, 35), (0, x1), (9, 0), (9, 0)] [] S1 Qr Qt)))) Qt) : zEnds 118 209 18 [(29, 35), (0, x1), (9, 0), (9, 0)] [(0, y0), (29, 35)] S Qr Qt := zwq_sound [13, 18, 34] 400 18 _ _ _ h
set_option maxRecDepth 20000 in
/-- DiskPoolModel.replace from 34 -/
theorem j_209_34 {x1 : Int} {S : zS} {Qr Qt : Int → zS → Prop} (h : ((0 : Int) = 0 ∨ (0 : Int) = 1) ∧ Qr 0 S) : zEnds 118 209 34 [(29, 35), (0, x1), (9, 0), (9, 0)] [] S Qr Qt := zwq_sound [13, 18, 34] 400 34 _ _ _ h
set_option maxRecDepth 20000 in
/-- DiskPoolModel.spoil from 0 -/
theorem j_212 {x1 x2 x3 x4 x5 : Int} {S : zS} {Qr Qt : Int → zS → Prop} (h : (x4 ≤ 0 → zEnds 118 212 29 [(29, 35), (0, x1), (0, x2), (0, x3), (0, x4), (1, x5), (9, 0), (9, 0), (9, 0)] [] S Qr Qt) ∧ (¬ (x4 ≤ 0) → ((9 : Int) ≤ x4 → zEnds 118 212 29 [(29, 35), (0, x1), (0, x2), (0, x3), (0, x4), (1, x5), (9, 0), (9, 0), (9, 0)] [] S Qr Qt) ∧ (¬ ((9 : Int) ≤ x4) → (x3 < 0 → zEnds 118 212 29 [(29, 35), (0, x1), (0, x2), (0, x3), (0, x4), (1, x5), (9, 0), (9, 0), (9, 0)] [] S Qr Qt) ∧ (¬ (x3 < 0) → (z32 (70 - x4) < x3 → zEnds 118 212 29 [(29, 35), (0, x1), (0, x2), (0, x3), (0, x4), (1, x5), (9, 0), (9, 0), (9, 0)] [] S Qr Qt) ∧ (¬ (z32 (70 - x4) < x3) → zEnds 118 212 30 [(29, 35), (0, x1), (0, x2), (0, x3), (0, x4), (1, x5), (9, 0), (9, 0), (9, 0)] [(0, 1)] S Qr Qt))))) : zEnds 118 212 0 [(29, 35), (0, x1), (0, x2), (0, x3), (0, x4), (1, x5), (9, 0), (9, 0), (9, 0)] [] S Qr Qt := zwq_sound [30, 86, 91, 96] 400 0 _ _ _ h
set_option maxRecDepth 20000 in
/-- DiskPoolModel.spoil from 29 -/
theorem j_212_29 {x1 x2 x3 x4 x5 : Int} {S : zS} {Qr Qt : Int → zS → Prop} (h : zEnds 118 212 30 [(29, 35), (0, x1), (0, x2), (0, x3), (0, x4), (1, x5), (9, 0), (9, 0), (9, 0)] [(0, 0)] S Qr Qt) : zEnds 118 212 29 [(29, 35), (0, x1), (0, x2), (0, x3), (0, x4), (1, x5), (9, 0), (9, 0), (9, 0)] [] S Qr Qt := zwq_sound [30, 86, 91, 96] 400 29 _ _ _ h
set_option maxRecDepth 20000 in
/-- DiskPoolModel.spoil from 121 -/
theorem j_212_121 {S : zS} {Qr Qt : Int → zS → Prop} (h : ((0 : Int) = 0 ∨ (0 : Int) = 1) ∧ Qr 0 S) : zEnds 118 212 121 [(9, 0), (9, 0), (9, 0), (9, 0), (9, 0), (9, 0), (9, 0), (9, 0), (9, 0)] [] S Qr Qt := zwq_sound [30, 86, 91, 96] 400 121 _ _ _ h
set_option maxRecDepth 20000 in
/-- DiskPoolModel.spoil from 182 -/
theorem j_212_182 {x1 x2 x3 x4 x5 : Int} {S : zS} {Qr Qt : Int → zS → Prop} (h : zEnds 118 183 0 [(0, x1), (0, x2)] [] S (fun v1 S1 => zEnds 118 210 0 [(29, 35), (0, z32 (z32 (70 * v1) + x3)), (0, x4), (1, x5), (9, 0), (9, 0)] [] S1 (fun v2 S2 => ((0 : Int) = 0 ∨ (0 : Int) = 1) ∧ Qr 0 S2) Qt) Qt) : zEnds 118 212 182 [(29, 35), (0, x1), (0, x2), (0, x3), (0, x4), (1, x5), (9, 0), (9, 0), (9, 0)] [] S Qr Qt := zwq_sound [30, 86, 91, 96] 400 182 _ _ _ h
set_option maxRecDepth 20000 in
/-- DiskPoolModel.spoil from 30 -/
theorem j_212_30 {x1 x2 x3 x4 x5 y0 : Int} {S : zS} {Qr Qt : Int → zS → Prop} (h : (x1 < 0 → zEnds 118 212 91 [(29, 35), (0, x1), (0, x2), (0, x3), (0, x4), (1, x5), (9, 0), (0, y0), (9, 0)] [(29, 35)] S Qr Qt) ∧ (¬ (x1 < 0) → (S.2.2 35 1 ≤ x1 → zEnds 118 212 91 [(29, 35), (0, x1), (0, x2), (0, x3), (0, x4), (1, x5), (9, 0), (0, y0), (9, 0)] [(29, 35)] S Qr Qt) ∧ (¬ (S.2.2 35 1 ≤ x1) → (x2 < 0 → zEnds 118 212 91 [(29, 35), (0, x1), (0, x2), (0, x3), (0, x4), (1, x5), (9, 0), (0, y0), (9, 0)] [(29, 35)] S Qr Qt) ∧ (¬ (x2 < 0) → (S.2.2 35 3 ≤ x2 → zEnds 118 212 91 [(29, 35), (0, x1), (0, x2), (0, x3), (0, x4), (1, x5), (9, 0), (0, y0), (9, 0)] [(29, 35)] S Qr Qt) ∧ (¬ (S.2.2 35 3 ≤ x2) → (y0 = 0 → zEnds 118 212 91 [(29, 35), (0, x1), (0, x2), (0, x3), (0, x4), (1, x5), (9, 0), (0, y0), (9, 0)] [(29, 35)] S Qr Qt) ∧ (¬ (y0 = 0) → (x4 ≠ 8 → zEnds 118 212 86 [(29, 35), (0, x1), (0, x2), (0, x3), (0, x4), (1, x5), (9, 0), (0, y0), (9, 0)] [(1, zland x5 (z64 (zlshl 1 (z32 (8 * x4)) - 1))), (29, 35)] S Qr Qt) ∧ (¬ (x4 ≠ 8) → zEnds 118 212 86 [(29, 35), (0, x1), (0, x2), (0, x3), (0, x4), (1, x5), (9, 0), (0, y0), (9, 0)] [(1, x5), (29, 35)] S Qr Qt))))))) : zEnds 118 212 30 [(29, 35), (0, x1), (0, x2), (0, x3), (0, x4), (1, x5), (9, 0), (9, 0), (9, 0)] [(0, y0)] S Qr Qt := zwq_sound [30, 86, 91, 96] 400 30 _ _ _ h
set_option maxRecDepth 20000 in
/-- DiskPoolModel.spoil from 91 -/
theorem j_212_91 {x1 x2 x3 x4 x5 x7 : Int} {S : zS} {Qr Qt : Int → zS → Prop} (h : zEnds 118 212 96 [(29, 35), (0, x1), (0, x2), (0, x3), (0, x4), (1, x5), (9, 0), (0, x7), (9, 0)] [(0, 1), (29, 35)] S Qr Qt) : zEnds 118 212 91 [(29, 35), (0, x1), (0, x2), (0, x3), (0, x4), (1, x5), (9, 0), (0, x7), (9, 0)] [(29, 35)] S Qr Qt := zwq_sound [30, 86, 91, 96] 400 91 _ _ _ h
set_option maxRecDepth 20000 in
/-- DiskPoolModel.spoil from 86 -/
theorem j_212_86 {x1 x2 x3 x4 x5 x7 y0 : Int} {S : zS} {Qr Qt : Int → zS → Prop} (h : (zcmp y0 0 ≠ 0 → zEnds 118 212 96 [(29, 35), (0, x1), (0, x2), (0, x3), (0, x4), (1, x5), (9, 0), (0, x7), (9, 0)] [(0, 0), (29, 35)] S Qr Qt) ∧ (¬ (zcmp y0 0 ≠ 0) → zEnds 118 212 91 [(29, 35), (0, x1), (0, x2), (0, x3), (0, x4), (1, x5), (9, 0), (0, x7), (9, 0)] [(29, 35)] S Qr Qt)) : zEnds 118 212 86 [(29, 35), (0, x1), (0, x2), (0, x3), (0, x4), (1, x5), (9, 0), (0, x7), (9, 0)] [(1, y0), (29, 35)] S Qr Qt := zwq_sound [30, 86, 91, 96] 400 86 _ _ _ h
set_option maxRecDepth 20000 in
/-- DiskPoolModel.spoil from 96 -/
theorem j_212_96 {x1 x2 x3 x4 x5 x7 y0 : Int} {S : zS} {Qr Qt : Int → zS → Prop} (h : zEnds 118 181 0 [(29, 35), (0, y0), (0, 1)] [] S (fun v1 S1 => (v1 = 0 → (S1.2.2 35 12 = 0 → zEnds 118 212 121 [(9, 0), (9, 0), (9, 0), (9, 0), (9, 0), (9, 0), (9, 0), (9, 0), (9, 0)] [] S1 Qr Qt) ∧ (¬ (S1.2.2 35 12 = 0) → (0 ≤ x1 ∧ x1 < S1.2.1 37) ∧ ((S1.2.2 37 x1 ≠ 0 → zEnds 118 192 0 [(29, 35), (0, x2), (0, x1), (9, 0)] [] S1 (fun v2 S2 => ((0 : Int) ≤ v2 → zEnds 118 183 0 [(0, x1), (0, x2)] [] S2 (fun v3 S3 => zEnds 118 210 0 [(29, 35), (0, z32 (z32 (70 * v3) + x3)), (0, x4), (1, x5), (9, 0), (9, 0)] [] S3 (fun v4 S4 => zEnds 118 190 0 [(29, 35), (0, x2), (0, v2), (0, (-1)), (9, 0), (9, 0), (9, 0), (9, 0)] [] S4 (fun v5 S5 => ((2 : Int) ≤ v5 → zEnds 118 212 182 [(29, 35), (0, x1), (0, x2), (0, x3), (0, x4), (1, x5), (9, 0), (9, 0), (9, 0)] [] S5 Qr Qt) ∧ (¬ ((2 : Int) ≤ v5) → zEnds 118 183 0 [(0, x1), (0, x2)] [] S5 (fun v6 S6 => zEnds 118 211 0 [(29, 35), (0, v6), (9, 0), (9, 0), (9, 0), (9, 0)] [] S6 (fun v7 S7 => (v7 ≠ 0 → zEnds 118 212 182 [(29, 35), (0, x1), (0, x2), (0, x3), (0, x4), (1, x5), (9, 0), (9, 0), (9, 0)] [] S7 Qr Qt) ∧ (¬ (v7 ≠ 0) → ((1 : Int) = 0 ∨ (1 : Int) = 1) ∧ Qr 1 S7)) Qt) Qt)) Qt) Qt) Qt) ∧ (¬ ((0 : Int) ≤ v2) → ((0 : Int) = 0 ∨ (0 : Int) = 1) ∧ Qr 0 S2)) Qt) ∧ (¬ (S1.2.2 37 x1 ≠ 0) → zEnds 118 212 121 [(9, 0), (9, 0), (9, 0), (9, 0), (9, 0), (9, 0), (9, 0), (9, 0), (9, 0)] [] S1 Qr Qt)))) ∧ (¬ (v1 = 0) → ((0 : Int) = 0 ∨ (0 : Int) = 1) ∧ Qr 0 S1)) Qt) : zEnds 118 212 96 [(29, 35), (0, x1), (0, x2), (0, x3), (0, x4), (1, x5), (9, 0), (0, x7), (9, 0)] [(0, y0), (29, 35)] S Qr Qt := zwq_sound [30, 86, 91, 96] 400 96 _ _ _ h
set_option maxRecDepth 20000 in
/-- DiskPoolModel.rebuild from 0 -/
theorem j_213 {S : zS} {Qr Qt : Int → zS → Prop} (h : (S.2.2 35 12 ≠ 0 → zEnds 118 213 13 [(29, 35), (9, 0), (9, 0), (9, 0)] [(0, 0), (29, 35)] S Qr Qt) ∧ (¬ (S.2.2 35 12 ≠ 0) → zEnds 118 213 13 [(29, 35), (9, 0), (9, 0), (9, 0)] [(0, 1), (29, 35)] S Qr Qt)) : zEnds 118 213 0 [(29, 35), (9, 0), (9, 0), (9, 0)] [] S Qr Qt := zwq_sound [13, 112, 118] 400 0 _ _ _ h
set_option maxRecDepth 20000 in
/-- DiskPoolModel.rebuild from 24 -/
theorem j_213_24 {x1 : Int} {S : zS} {Qr Qt : Int → zS → Prop} (h : (S.2.2 35 3 ≤ x1 → Qr 0 S) ∧ (¬ (S.2.2 35 3 ≤ x1) → zEnds 118 193 0 [(29, 35), (0, x1), (9, 0)] [] S (fun v1 S1 => zEnds 118 213 40 [(29, 35), (0, x1), (0, v1), (0, 0)] [] S1 Qr Qt) Qt)) : zEnds 118 213 24 [(29, 35), (0, x1), (9, 0), (9, 0)] [] S Qr Qt := zwq_sound [13, 112, 118] 400 24 _ _ _ h
set_option maxRecDepth 20000 in
/-- DiskPoolModel.rebuild from 40 -/
theorem j_213_40 {x1 x2 x3 : Int} {S : zS} {Qr Qt : Int → zS → Prop} (h : (z32 ((S.2.2 35 2) * (S.2.2 35 4)) ≤ x3 → zEnds 118 213 118 [(29, 35), (0, x1), (0, x2), (0, x3)] [] S Qr Qt) ∧ (¬ (z32 ((S.2.2 35 2) * (S.2.2 35 4)) ≤ x3) → (x2 < 0 → zEnds 118 213 118 [(29, 35), (0, x1), (0, x2), (0, x3)] [] S Qr Qt) ∧ (¬ (x2 < 0) → zEnds 118 188 0 [(29, 35), (0, x1), (0, x3)] [] S (fun v1 S1 => ((0 : Int) ≤ v1 → zEnds 118 213 112 [(29, 35), (0, x1), (0, x2), (0, x3)] [] S1 Qr Qt) ∧ (¬ ((0 : Int) ≤ v1) → zEnds 118 184 0 [(29, 35), (0, x1), (0, x3)] [] S1 (fun v2 S2 => (0 ≤ v2 ∧ v2 < S2.2.1 37) ∧ ((S2.2.2 37 v2 = 0 → zEnds 118 194 0 [(29, 35), (0, x2), (0, x1), (0, z32 (x3 + 1)), (9, 0)] [] S2 (fun v3 S3 => (v3 ≠ 0 → (0 ≤ z32 (z32 (16 * x1) + x3) ∧ z32 (z32 (16 * x1) + x3) < S3.2.1 41) ∧ Qr 1 (S3.1, S3.2.1, zupd S3.2.2 41 (z32 (z32 (16 * x1) + x3)) x2)) ∧ (¬ (v3 ≠ 0) → Qr (-9) S3)) Qt) ∧ (¬ (S2.2.2 37 v2 = 0) → zEnds 118 213 112 [(29, 35), (0, x1), (0, x2), (0, x3)] [] S2 Qr Qt))) Qt)) Qt))) : zEnds 118 213 40 [(29, 35), (0, x1), (0, x2), (0, x3)] [] S Qr Qt := zwq_sound [13, 112, 118] 400 40 _ _ _ h
set_option maxRecDepth 20000 in
/-- DiskPoolModel.rebuild from 13 -/
theorem j_213_13 {y0 : Int} {S : zS} {Qr Qt : Int → zS → Prop} (h : zEnds 118 181 0 [(29, 35), (0, y0), (0, 1)] [] S (fun v1 S1 => (v1 = 0 → zEnds 118 213 24 [(29, 35), (0, 0), (9, 0), (9, 0)] [] S1 Qr Qt) ∧ (¬ (v1 = 0) → Qr 0 S1)) Qt) : zEnds 118 213 13 [(29, 35), (9, 0), (9, 0), (9, 0)] [(0, y0), (29, 35)] S Qr Qt := zwq_sound [13, 112, 118] 400 13 _ _ _ h
set_option maxRecDepth 20000 in
/-- DiskPoolModel.rebuild from 118 -/
theorem j_213_118 {x1 x2 x3 : Int} {S : zS} {Qr Qt : Int → zS → Prop} (h : zEnds 118 213 24 [(29, 35), (0, z32 (x1 + 1)), (9, 0), (9, 0)] [] S Qr Qt) : zEnds 118 213 118 [(29, 35), (0, x1), (0, x2), (0, x3)] [] S Qr Qt := zwq_sound [13, 112, 118] 400 118 _ _ _ h
set_option maxRecDepth 20000 in
/-- DiskPoolModel.rebuild from 112 -/
theorem j_213_112 {x1 x2 x3 : Int} {S : zS} {Qr Qt : Int → zS → Prop} (h : zEnds 118 213 40 [(29, 35), (0, x1), (0, x2), (0, z32 (x3 + 1))] [] S Qr Qt) : zEnds 118 213 112 [(29, 35), (0, x1), (0, x2), (0, x3)] [] S Qr Qt := zwq_sound [13, 112, 118] 400 112 _ _ _ h
set_option maxRecDepth 20000 in
/-- DiskPoolModel.copyBack from 0 -/
theorem j_214 {S : zS} {Qr Qt : Int → zS → Prop} (h : (S.2.2 35 12 ≠ 0 → zEnds 118 214 13 [(29, 35), (9, 0), (9, 0), (9, 0), (9, 0)] [(0, 0), (29, 35)] S Qr Qt) ∧ (¬ (S.2.2 35 12 ≠ 0) → zEnds 118 214 13 [(29, 35), (9, 0), (9, 0), (9, 0), (9, 0)] [(0, 1), (29, 35)] S Qr Qt)) : zEnds 118 214 0 [(29, 35), (9, 0), (9, 0), (9, 0), (9, 0)] [] S Qr Qt := zwq_sound [13, 130, 137] 400 0 _ _ _ h
set_option maxRecDepth 20000 in
/-- DiskPoolModel.copyBack from 24 -/
theorem j_214_24 {x1 : Int} {S : zS} {Qr Qt : Int → zS → Prop} (h : (S.2.2 35 3 ≤ x1 → Qr 0 S) ∧ (¬ (S.2.2 35 3 ≤ x1) → zEnds 118 214 34 [(29, 35), (0, x1), (0, 0), (9, 0), (9, 0)] [] S Qr Qt)) : zEnds 118 214 24 [(29, 35), (0, x1), (9, 0), (9, 0), (9, 0)] [] S Qr Qt := zwq_sound [13, 130, 137] 400 24 _ _ _ h
set_option maxRecDepth 20000 in
/-- DiskPoolModel.copyBack from 34 -/
theorem j_214_34 {x1 x2 : Int} {S : zS} {Qr Qt : Int → zS → Prop} (h : (z32 ((S.2.2 35 2) * (S.2.2 35 4)) ≤ x2 → zEnds 118 214 24 [(29, 35), (0, z32 (x1 + 1)), (9, 0), (9, 0), (9, 0)] [] S Qr Qt) ∧ (¬ (z32 ((S.2.2 35 2) * (S.2.2 35 4)) ≤ x2) → zEnds 118 184 0 [(29, 35), (0, x1), (0, x2)] [] S (fun v1 S1 => (0 ≤ v1 ∧ v1 < S1.2.1 37) ∧ ((S1.2.2 37 v1 = 0 → zEnds 118 214 137 [(29, 35), (0, x1), (0, x2), (0, v1), (9, 0)] [] S1 Qr Qt) ∧ (¬ (S1.2.2 37 v1 = 0) → zEnds 118 183 0 [(0, v1), (0, x1)] [] S1 (fun v2 S2 => (0 ≤ v2 ∧ v2 < S2.2.1 38) ∧ ((S2.2.2 38 v2 = 0 → zEnds 118 188 0 [(29, 35), (0, x1), (0, x2)] [] S2 (fun v3 S3 => zEnds 118 194 0 [(29, 35), (0, v1), (0, x1), (0, z32 (x2 + 1)), (9, 0)] [] S3 (fun v4 S4 => (v4 ≠ 0 → (0 ≤ z32 (z32 (16 * x1) + x2) ∧ z32 (z32 (16 * x1) + x2) < S4.2.1 41) ∧ ((v3 < 0 → zEnds 118 214 130 [(29, 35), (0, x1), (0, x2), (0, v1), (0, v3)] [] (S4.1, S4.2.1, zupd S4.2.2 41 (z32 (z32 (16 * x1) + x2)) v1) Qr Qt) ∧ (¬ (v3 < 0) → zEnds 118 194 0 [(29, 35), (0, v3), (0, x1), (0, 0), (9, 0)] [] (S4.1, S4.2.1, zupd S4.2.2 41 (z32 (z32 (16 * x1) + x2)) v1) (fun v5 S5 => (v5 = 0 → Qr (-9) S5) ∧ (¬ (v5 = 0) → zEnds 118 214 130 [(29, 35), (0, x1), (0, x2), (0, v1), (0, v3)] [] S5 Qr Qt)) Qt))) ∧ (¬ (v4 ≠ 0) → Qr (-9) S4)) Qt) Qt) ∧ (¬ (S2.2.2 38 v2 = 0) → zEnds 118 214 137 [(29, 35), (0, x1), (0, x2), (0, v1), (9, 0)] [] S2 Qr Qt))) Qt))) Qt)) : zEnds 118 214 34 [(29, 35), (0, x1), (0, x2), (9, 0), (9, 0)] [] S Qr Qt := zwq_sound [13, 130, 137] 400 34 _ _ _ h
set_option maxRecDepth 20000 in
/-- DiskPoolModel.copyBack from 13 -/
theorem j_214_13 {y0 : Int} {S : zS} {Qr Qt : Int → zS → Prop} (h : zEnds 118 181 0 [(29, 35), (0, y0), (0, 1)] [] S (fun v1 S1 => (v1 = 0 → zEnds 118 214 24 [(29, 35), (0, 0), (9, 0), (9, 0), (9, 0)] [] S1 Qr Qt) ∧ (¬ (v1 = 0) → Qr 0 S1)) Qt) : zEnds 118 214 13 [(29, 35), (9, 0), (9, 0), (9, 0), (9, 0)] [(0, y0), (29, 35)] S Qr Qt := zwq_sound [13, 130, 137] 400 13 _ _ _ h
set_option maxRecDepth 20000 in
/-- DiskPoolModel.copyBack from 137 -/
theorem j_214_137 {x1 x2 x3 : Int} {S : zS} {Qr Qt : Int → zS → Prop} (h : zEnds 118 214 34 [(29, 35), (0, x1), (0, z32 (x2 + 1)), (9, 0), (9, 0)] [] S Qr Qt) : zEnds 118 214 137 [(29, 35), (0, x1), (0, x2), (0, x3), (9, 0)] [] S Qr Qt := zwq_sound [13, 130, 137] 400 137 _ _ _ h
set_option maxRecDepth 20000 in
/-- DiskPoolModel.copyBack from 130 -/
theorem j_214_130 {x1 x2 x3 x4 : Int} {S : zS} {Qr Qt : Int → zS → Prop} (h : Qr 1 S) : zEnds 118 214 130 [(29, 35), (0, x1), (0, x2), (0, x3), (0, x4)] [] S Qr Qt := zwq_sound [13, 130, 137] 400 130 _ _ _ h
set_option maxRecDepth 20000 in
/-- DiskPoolModel.scrub from 0 -/
theorem j_215 {S : zS} {Qr Qt : Int → zS → Prop} (h : (S.2.2 35 12 ≠ 0 → zEnds 118 215 13 [(29, 35), (9, 0), (9, 0), (9, 0)] [(0, 0), (29, 35)] S Qr Qt) ∧ (¬ (S.2.2 35 12 ≠ 0) → zEnds 118 215 13 [(29, 35), (9, 0), (9, 0), (9, 0)] [(0, 1), (29, 35)] S Qr Qt)) : zEnds 118 215 0 [(29, 35), (9, 0), (9, 0), (9, 0)] [] S Qr Qt := zwq_sound [13] 400 0 _ _ _ h
set_option maxRecDepth 20000 in
/-- DiskPoolModel.scrub from 69 -/
theorem j_215_69 {x1 x2 x3 : Int} {S : zS} {Qr Qt : Int → zS → Prop} (h : (z32 (x2 + S.2.2 35 2) ≤ x3 → Qr 0 S) ∧ (¬ (z32 (x2 + S.2.2 35 2) ≤ x3) → zEnds 118 189 0 [(29, 35), (0, x1), (0, x3), (9, 0)] [] S (fun v1 S1 => (v1 = 0 → zEnds 118 215 69 [(29, 35), (0, x1), (0, x2), (0, z32 (x3 + 1))] [] S1 Qr Qt) ∧ (¬ (v1 = 0) → zEnds 118 188 0 [(29, 35), (0, x1), (0, x3)] [] S1 (fun v2 S2 => zEnds 118 194 0 [(29, 35), (0, v2), (0, x1), (0, z32 (x3 + 1)), (9, 0)] [] S2 (fun v3 S3 => (v3 = 0 → Qr (-9) S3) ∧ (¬ (v3 = 0) → Qr 1 S3)) Qt) Qt)) Qt)) : zEnds 118 215 69 [(29, 35), (0, x1), (0, x2), (0, x3)] [] S Qr Qt := zwq_sound [13] 400 69 _ _ _ h
set_option maxRecDepth 20000 in
/-- DiskPoolModel.scrub from 13 -/
theorem j_215_13 {y0 : Int} {S : zS} {Qr Qt : Int → zS → Prop} (h : zEnds 118 181 0 [(29, 35), (0, y0), (0, 1)] [] S (fun v1 S1 => (v1 = 0 → ((S1.2.2 35 4 : Int) ≠ 0) ∧ (((S1.2.2 35 4 : Int) ≠ 0) ∧ (((z32 ((S1.2.2 35 3) * (S1.2.2 35 4)) : Int) ≠ 0) ∧ zEnds 118 215 69 [(29, 35), (0, zdiv (S1.2.2 35 15) (S1.2.2 35 4)), (0, z32 ((S1.2.2 35 2) * (zrem (S1.2.2 35 15) (S1.2.2 35 4)))), (0, z32 ((S1.2.2 35 2) * (zrem (S1.2.2 35 15) (S1.2.2 35 4))))] [] (S1.1, S1.2.1, zupd S1.2.2 35 15 (zrem (z32 (S1.2.2 35 15 + 1)) (z32 ((S1.2.2 35 3) * (S1.2.2 35 4))))) Qr Qt))) ∧ (¬ (v1 = 0) → Qr 0 S1)) Qt) : zEnds 118 215 13 [(29, 35), (9, 0), (9, 0), (9, 0)] [(0, y0), (29, 35)] S Qr Qt := zwq_sound [13] 400 13 _ _ _ h
set_option maxRecDepth 20000 in
/-- DiskPoolModel.does from 0 -/
theorem j_249 {x1 x2 x3 x4 x5 : Int} {S : zS} {Qr Qt : Int → zS → Prop} (h : zEnds 118 222 0 [(29, 35)] [] S (fun v1 S1 => zEnds 118 248 0 [(29, 35), (0, x1), (0, x2), (0, x3), (0, x4), (0, x5)] [] S1 (fun v2 S2 => ((0 : Int) ≤ v2 → zEnds 118 220 0 [(29, 35), (9, 0), (9, 0)] [] S2 (fun v3 S3 => (v3 ≤ 24 → zEnds 118 249 75 [(29, 35), (0, x1), (0, x2), (0, x3), (0, x4), (0, x5), (0, v2)] [] S3 Qr Qt) ∧ (¬ (v3 ≤ 24) → zEnds 118 223 0 [(29, 35)] [] S3 (fun v4 S4 => zEnds 118 204 0 [(29, 35), (9, 0), (9, 0), (9, 0)] [] S4 (fun v5 S5 => ((0 : Int) ≤ v5 → zEnds 118 248 0 [(29, 35), (0, x1), (0, x2), (0, x3), (0, x4), (0, x5)] [] (S5.1, S5.2.1, zupd S5.2.2 35 29 (z32 (S5.2.2 35 29 + 1))) (fun v6 S6 => zEnds 118 249 75 [(29, 35), (0, x1), (0, x2), (0, x3), (0, x4), (0, x5), (0, v6)] [] S6 Qr Qt) Qt) ∧ (¬ ((0 : Int) ≤ v5) → Qr (-9) S5)) Qt) Qt)) Qt) ∧ (¬ ((0 : Int) ≤ v2) → zEnds 118 223 0 [(29, 35)] [] S2 (fun v7 S7 => Qr v2 S7) Qt)) Qt) Qt) : zEnds 118 249 0 [(29, 35), (0, x1), (0, x2), (0, x3), (0, x4), (0, x5), (9, 0)] [] S Qr Qt := zwq_sound [75] 400 0 _ _ _ h
set_option maxRecDepth 20000 in
/-- DiskPoolModel.does from 75 -/
theorem j_249_75 {x1 x2 x3 x4 x5 x6 : Int} {S : zS} {Qr Qt : Int → zS → Prop} (h : Qr x6 (S.1, S.2.1, zupd S.2.2 35 28 (z32 (S.2.2 35 28 + 1)))) : zEnds 118 249 75 [(29, 35), (0, x1), (0, x2), (0, x3), (0, x4), (0, x5), (0, x6)] [] S Qr Qt := zwq_sound [75] 400 75 _ _ _ h
set_option maxRecDepth 20000 in
/-- DiskPoolModel.make from 0 -/
theorem j_252 {x1 x2 x3 : Int} {S : zS} {Qr Qt : Int → zS → Prop} (h : zEnds 118 250 0 [(0, x1)] [] S (fun v1 S1 => (v1 ≠ 0 → zEnds 118 252 15 [(29, 35), (0, x1), (0, x2), (0, x3)] [(29, 35)] S1 Qr Qt) ∧ (¬ (v1 ≠ 0) → zEnds 118 251 0 [(0, x2)] [] S1 (fun v2 S2 => (v2 = 0 → zEnds 118 252 20 [(29, 35), (0, x1), (0, x2), (0, x3)] [(0, 0), (29, 35)] S2 Qr Qt) ∧ (¬ (v2 = 0) → zEnds 118 252 15 [(29, 35), (0, x1), (0, x2), (0, x3)] [(29, 35)] S2 Qr Qt)) Qt)) Qt) : zEnds 118 252 0 [(29, 35), (0, x1), (0, x2), (0, x3)] [] S Qr Qt := zwq_sound [15, 20, 40, 47, 62] 400 0 _ _ _ h
set_option maxRecDepth 20000 in
/-- DiskPoolModel.make from 15 -/
theorem j_252_15 {x1 x2 x3 : Int} {S : zS} {Qr Qt : Int → zS → Prop} (h : zEnds 118 252 20 [(29, 35), (0, x1), (0, x2), (0, x3)] [(0, 1), (29, 35)] S Qr Qt) : zEnds 118 252 15 [(29, 35), (0, x1), (0, x2), (0, x3)] [(29, 35)] S Qr Qt := zwq_sound [15, 20, 40, 47, 62] 400 15 _ _ _ h
set_option maxRecDepth 20000 in
/-- DiskPoolModel.make from 20 -/
theorem j_252_20 {x1 x2 x3 y0 : Int} {S : zS} {Qr Qt : Int → zS → Prop} (h : zEnds 118 181 0 [(29, 35), (0, y0), (0, 1)] [] S (fun v1 S1 => (v1 ≠ 0 → zEnds 118 252 47 [(29, 35), (0, x1), (0, x2), (0, x3)] [] S1 Qr Qt) ∧ (¬ (v1 ≠ 0) → (S1.2.2 35 12 ≠ 0 → zEnds 118 252 40 [(29, 35), (0, x1), (0, x2), (0, x3)] [(0, 0), (29, 35)] S1 Qr Qt) ∧ (¬ (S1.2.2 35 12 ≠ 0) → zEnds 118 252 40 [(29, 35), (0, x1), (0, x2), (0, x3)] [(0, 1), (29, 35)] S1 Qr Qt))) Qt) : zEnds 118 252 20 [(29, 35), (0, x1), (0, x2), (0, x3)] [(0, y0), (29, 35)] S Qr Qt := zwq_sound [15, 20, 40, 47, 62] 400 20 _ _ _ h
set_option maxRecDepth 20000 in
/-- DiskPoolModel.make from 47 -/
theorem j_252_47 {x1 x2 x3 : Int} {S : zS} {Qr Qt : Int → zS → Prop} (h : Qr 0 S) : zEnds 118 252 47 [(29, 35), (0, x1), (0, x2), (0, x3)] [] S Qr Qt := zwq_sound [15, 20, 40, 47, 62] 400 47 _ _ _ h
set_option maxRecDepth 20000 in
/-- DiskPoolModel.make from 40 -/
theorem j_252_40 {x1 x2 x3 y0 : Int} {S : zS} {Qr Qt : Int → zS → Prop} (h : zEnds 118 181 0 [(29, 35), (0, y0), (0, 2)] [] S (fun v1 S1 => (v1 = 0 → (x3 = 0 → zEnds 118 252 62 [(29, 35), (0, x1), (0, x2), (0, x3)] [(0, 0), (0, x2), (0, x1), (0, 0), (29, 35)] S1 Qr Qt) ∧ (¬ (x3 = 0) → zEnds 118 252 62 [(29, 35), (0, x1), (0, x2), (0, x3)] [(0, 1), (0, x2), (0, x1), (0, 0), (29, 35)] S1 Qr Qt)) ∧ (¬ (v1 = 0) → zEnds 118 252 47 [(29, 35), (0, x1), (0, x2), (0, x3)] [] S1 Qr Qt)) Qt) : zEnds 118 252 40 [(29, 35), (0, x1), (0, x2), (0, x3)] [(0, y0), (29, 35)] S Qr Qt := zwq_sound [15, 20, 40, 47, 62] 400 40 _ _ _ h
set_option maxRecDepth 20000 in
/-- DiskPoolModel.make from 62 -/
theorem j_252_62 {x1 x2 x3 y0 y1 y2 y3 : Int} {S : zS} {Qr Qt : Int → zS → Prop} (h : zEnds 118 249 0 [(29, 35), (0, y3), (0, y2), (0, y1), (0, y0), (0, 0), (9, 0)] [] S (fun v1 S1 => Qr v1 S1) Qt) : zEnds 118 252 62 [(29, 35), (0, x1), (0, x2), (0, x3)] [(0, y0), (0, y1), (0, y2), (0, y3), (29, 35)] S Qr Qt := zwq_sound [15, 20, 40, 47, 62] 400 62 _ _ _ h
set_option maxRecDepth 20000 in
/-- DiskPoolModel.find from 0 -/
theorem j_253 {x1 x2 : Int} {S : zS} {Qr Qt : Int → zS → Prop} (h : zEnds 118 250 0 [(0, x1)] [] S (fun v1 S1 => (v1 ≠ 0 → zEnds 118 253 15 [(29, 35), (0, x1), (0, x2), (9, 0)] [(29, 35)] S1 Qr Qt) ∧ (¬ (v1 ≠ 0) → zEnds 118 251 0 [(0, x2)] [] S1 (fun v2 S2 => (v2 = 0 → zEnds 118 253 20 [(29, 35), (0, x1), (0, x2), (9, 0)] [(0, 0), (29, 35)] S2 Qr Qt) ∧ (¬ (v2 = 0) → zEnds 118 253 15 [(29, 35), (0, x1), (0, x2), (9, 0)] [(29, 35)] S2 Qr Qt)) Qt)) Qt) : zEnds 118 253 0 [(29, 35), (0, x1), (0, x2), (9, 0)] [] S Qr Qt := zwq_sound [15, 20, 40, 47] 400 0 _ _ _ h
set_option maxRecDepth 20000 in
/-- DiskPoolModel.find from 15 -/
theorem j_253_15 {x1 x2 : Int} {S : zS} {Qr Qt : Int → zS → Prop} (h : zEnds 118 253 20 [(29, 35), (0, x1), (0, x2), (9, 0)] [(0, 1), (29, 35)] S Qr Qt) : zEnds 118 253 15 [(29, 35), (0, x1), (0, x2), (9, 0)] [(29, 35)] S Qr Qt := zwq_sound [15, 20, 40, 47] 400 15 _ _ _ h
set_option maxRecDepth 20000 in
/-- DiskPoolModel.find from 20 -/
theorem j_253_20 {x1 x2 y0 : Int} {S : zS} {Qr Qt : Int → zS → Prop} (h : zEnds 118 181 0 [(29, 35), (0, y0), (0, 1)] [] S (fun v1 S1 => (v1 ≠ 0 → zEnds 118 253 47 [(29, 35), (0, x1), (0, x2), (9, 0)] [] S1 Qr Qt) ∧ (¬ (v1 ≠ 0) → (S1.2.2 35 12 ≠ 0 → zEnds 118 253 40 [(29, 35), (0, x1), (0, x2), (9, 0)] [(0, 0), (29, 35)] S1 Qr Qt) ∧ (¬ (S1.2.2 35 12 ≠ 0) → zEnds 118 253 40 [(29, 35), (0, x1), (0, x2), (9, 0)] [(0, 1), (29, 35)] S1 Qr Qt))) Qt) : zEnds 118 253 20 [(29, 35), (0, x1), (0, x2), (9, 0)] [(0, y0), (29, 35)] S Qr Qt := zwq_sound [15, 20, 40, 47] 400 20 _ _ _ h
set_option maxRecDepth 20000 in
/-- DiskPoolModel.find from 47 -/
theorem j_253_47 {x1 x2 : Int} {S : zS} {Qr Qt : Int → zS → Prop} (h : Qr 0 S) : zEnds 118 253 47 [(29, 35), (0, x1), (0, x2), (9, 0)] [] S Qr Qt := zwq_sound [15, 20, 40, 47] 400 47 _ _ _ h
set_option maxRecDepth 20000 in
/-- DiskPoolModel.find from 40 -/
theorem j_253_40 {x1 x2 y0 : Int} {S : zS} {Qr Qt : Int → zS → Prop} (h : zEnds 118 181 0 [(29, 35), (0, y0), (0, 2)] [] S (fun v1 S1 => (v1 = 0 → zEnds 118 240 0 [(29, 35), (0, x1)] [] S1 (fun v2 S2 => ((0 : Int) ≤ v2 → zEnds 118 235 0 [(29, 35), (0, x1), (0, x2), (9, 0)] [] S2 (fun v3 S3 => ((0 : Int) ≤ v3 → zEnds 118 236 0 [(29, 35), (0, x1), (0, v3)] [] S3 (fun v4 S4 => Qr v4 S4) Qt) ∧ (¬ ((0 : Int) ≤ v3) → Qr (-1) S3)) Qt) ∧ (¬ ((0 : Int) ≤ v2) → zEnds 118 240 0 [(29, 35), (0, x1)] [] S2 (fun v5 S5 => Qr v5 S5) Qt)) Qt) ∧ (¬ (v1 = 0) → zEnds 118 253 47 [(29, 35), (0, x1), (0, x2), (9, 0)] [] S1 Qr Qt)) Qt) : zEnds 118 253 40 [(29, 35), (0, x1), (0, x2), (9, 0)] [(0, y0), (29, 35)] S Qr Qt := zwq_sound [15, 20, 40, 47] 400 40 _ _ _ h
set_option maxRecDepth 20000 in
/-- DiskPoolModel.write from 0 -/
theorem j_254 {x1 x2 : Int} {S : zS} {Qr Qt : Int → zS → Prop} (h : zEnds 118 250 0 [(0, x1)] [] S (fun v1 S1 => zEnds 118 181 0 [(29, 35), (0, v1), (0, 1)] [] S1 (fun v2 S2 => (v2 ≠ 0 → zEnds 118 254 32 [(29, 35), (0, x1), (0, x2), (9, 0)] [] S2 Qr Qt) ∧ (¬ (v2 ≠ 0) → (S2.2.2 35 12 ≠ 0 → zEnds 118 254 25 [(29, 35), (0, x1), (0, x2), (9, 0)] [(0, 0), (29, 35)] S2 Qr Qt) ∧ (¬ (S2.2.2 35 12 ≠ 0) → zEnds 118 254 25 [(29, 35), (0, x1), (0, x2), (9, 0)] [(0, 1), (29, 35)] S2 Qr Qt))) Qt) Qt) : zEnds 118 254 0 [(29, 35), (0, x1), (0, x2), (9, 0)] [] S Qr Qt := zwq_sound [25, 32] 400 0 _ _ _ h
set_option maxRecDepth 20000 in
/-- DiskPoolModel.write from 32 -/
theorem j_254_32 {x1 x2 : Int} {S : zS} {Qr Qt : Int → zS → Prop} (h : Qr 0 S) : zEnds 118 254 32 [(29, 35), (0, x1), (0, x2), (9, 0)] [] S Qr Qt := zwq_sound [25, 32] 400 32 _ _ _ h
set_option maxRecDepth 20000 in
/-- DiskPoolModel.write from 25 -/
theorem j_254_25 {x1 x2 y0 : Int} {S : zS} {Qr Qt : Int → zS → Prop} (h : zEnds 118 181 0 [(29, 35), (0, y0), (0, 2)] [] S (fun v1 S1 => (v1 = 0 → zEnds 118 249 0 [(29, 35), (0, 1), (0, x1), (0, x2), (0, S1.2.2 35 17), (0, 0), (9, 0)] [] (S1.1, S1.2.1, zupd S1.2.2 35 17 0) (fun v2 S2 => Qr v2 S2) Qt) ∧ (¬ (v1 = 0) → zEnds 118 254 32 [(29, 35), (0, x1), (0, x2), (9, 0)] [] S1 Qr Qt)) Qt) : zEnds 118 254 25 [(29, 35), (0, x1), (0, x2), (9, 0)] [(0, y0), (29, 35)] S Qr Qt := zwq_sound [25, 32] 400 25 _ _ _ h
set_option maxRecDepth 20000 in
/-- DiskPoolModel.cut from 0 -/
theorem j_255 {x1 x2 : Int} {S : zS} {Qr Qt : Int → zS → Prop} (h : zEnds 118 250 0 [(0, x1)] [] S (fun v1 S1 => zEnds 118 181 0 [(29, 35), (0, v1), (0, 1)] [] S1 (fun v2 S2 => (v2 ≠ 0 → zEnds 118 255 32 [(29, 35), (0, x1), (0, x2)] [] S2 Qr Qt) ∧ (¬ (v2 ≠ 0) → (S2.2.2 35 12 ≠ 0 → zEnds 118 255 25 [(29, 35), (0, x1), (0, x2)] [(0, 0), (29, 35)] S2 Qr Qt) ∧ (¬ (S2.2.2 35 12 ≠ 0) → zEnds 118 255 25 [(29, 35), (0, x1), (0, x2)] [(0, 1), (29, 35)] S2 Qr Qt))) Qt) Qt) : zEnds 118 255 0 [(29, 35), (0, x1), (0, x2)] [] S Qr Qt := zwq_sound [25, 32] 400 0 _ _ _ h
set_option maxRecDepth 20000 in
/-- DiskPoolModel.cut from 32 -/
theorem j_255_32 {x1 x2 : Int} {S : zS} {Qr Qt : Int → zS → Prop} (h : Qr 0 S) : zEnds 118 255 32 [(29, 35), (0, x1), (0, x2)] [] S Qr Qt := zwq_sound [25, 32] 400 32 _ _ _ h
set_option maxRecDepth 20000 in
/-- DiskPoolModel.cut from 25 -/
theorem j_255_25 {x1 x2 y0 : Int} {S : zS} {Qr Qt : Int → zS → Prop} (h : zEnds 118 181 0 [(29, 35), (0, y0), (0, 2)] [] S (fun v1 S1 => (v1 = 0 → zEnds 118 249 0 [(29, 35), (0, 2), (0, x1), (0, x2), (0, 0), (0, 0), (9, 0)] [] S1 (fun v2 S2 => Qr v2 S2) Qt) ∧ (¬ (v1 = 0) → zEnds 118 255 32 [(29, 35), (0, x1), (0, x2)] [] S1 Qr Qt)) Qt) : zEnds 118 255 25 [(29, 35), (0, x1), (0, x2)] [(0, y0), (29, 35)] S Qr Qt := zwq_sound [25, 32] 400 25 _ _ _ h
set_option maxRecDepth 20000 in
/-- DiskPoolModel.read from 0 -/
theorem j_256 {x1 x2 : Int} {S : zS} {Qr Qt : Int → zS → Prop} (h : zEnds 118 250 0 [(0, x1)] [] S (fun v1 S1 => zEnds 118 181 0 [(29, 35), (0, v1), (0, 1)] [] S1 (fun v2 S2 => (v2 ≠ 0 → zEnds 118 256 68 [(29, 35), (0, x1), (0, x2), (9, 0), (9, 0), (9, 0)] [] S2 Qr Qt) ∧ (¬ (v2 ≠ 0) → (S2.2.2 35 12 ≠ 0 → zEnds 118 256 25 [(29, 35), (0, x1), (0, x2), (9, 0), (9, 0), (9, 0)] [(0, 0), (29, 35)] S2 Qr Qt) ∧ (¬ (S2.2.2 35 12 ≠ 0) → zEnds 118 256 25 [(29, 35), (0, x1), (0, x2), (9, 0), (9, 0), (9, 0)] [(0, 1), (29, 35)] S2 Qr Qt))) Qt) Qt) : zEnds 118 256 0 [(29, 35), (0, x1), (0, x2), (9, 0), (9, 0), (9, 0)] [] S Qr Qt := zwq_sound [25, 56, 61, 68, 119] 400 0 _ _ _ h
set_option maxRecDepth 20000 in
/-- DiskPoolModel.read from 75 -/
theorem j_256_75 {x1 x2 x3 x5 : Int} {S : zS} {Qr Qt : Int → zS → Prop} (h : ((8 : Int) ≤ x5 → zEnds 118 256 119 [(29, 35), (0, x1), (0, x2), (1, x3), (9, 0), (0, x5)] [] S Qr Qt) ∧ (¬ ((8 : Int) ≤ x5) → zEnds 118 225 0 [(29, 35), (0, x1)] [] S (fun v1 S1 => (v1 ≤ z32 (x2 + x5) → zEnds 118 256 119 [(29, 35), (0, x1), (0, x2), (1, x3), (9, 0), (0, x5)] [] S1 Qr Qt) ∧ (¬ (v1 ≤ z32 (x2 + x5)) → zEnds 118 232 0 [(29, 35), (0, x1), (0, z32 (x2 + x5))] [] S1 (fun v2 S2 => zEnds 118 256 75 [(29, 35), (0, x1), (0, x2), (1, zlor x3 (zlshl v2 (z32 (8 * x5)))), (9, 0), (0, z32 (x5 + 1))] [] S2 Qr Qt) Qt)) Qt)) : zEnds 118 256 75 [(29, 35), (0, x1), (0, x2), (1, x3), (9, 0), (0, x5)] [] S Qr Qt := zwq_sound [25, 56, 61, 68, 119] 400 75 _ _ _ h
set_option maxRecDepth 20000 in
/-- DiskPoolModel.read from 68 -/
theorem j_256_68 {x1 x2 : Int} {S : zS} {Qr Qt : Int → zS → Prop} (h : Qr 0 S) : zEnds 118 256 68 [(29, 35), (0, x1), (0, x2), (9, 0), (9, 0), (9, 0)] [] S Qr Qt := zwq_sound [25, 56, 61, 68, 119] 400 68 _ _ _ h
set_option maxRecDepth 20000 in
/-- DiskPoolModel.read from 25 -/
theorem j_256_25 {x1 x2 y0 : Int} {S : zS} {Qr Qt : Int → zS → Prop} (h : zEnds 118 181 0 [(29, 35), (0, y0), (0, 2)] [] S (fun v1 S1 => (v1 ≠ 0 → zEnds 118 256 68 [(29, 35), (0, x1), (0, x2), (9, 0), (9, 0), (9, 0)] [] S1 Qr Qt) ∧ (¬ (v1 ≠ 0) → zEnds 118 224 0 [(29, 35), (0, x1)] [] S1 (fun v2 S2 => (v2 = 0 → zEnds 118 256 56 [(29, 35), (0, x1), (0, x2), (9, 0), (9, 0), (9, 0)] [(29, 35)] S2 Qr Qt) ∧ (¬ (v2 = 0) → zEnds 118 225 0 [(29, 35), (0, x1)] [] S2 (fun v3 S3 => zEnds 118 182 0 [(0, x2), (0, 0), (0, z32 (v3 - 1))] [] S3 (fun v4 S4 => (v4 ≠ 0 → zEnds 118 256 61 [(29, 35), (0, x1), (0, x2), (9, 0), (9, 0), (9, 0)] [(0, 0), (29, 35)] S4 Qr Qt) ∧ (¬ (v4 ≠ 0) → zEnds 118 256 56 [(29, 35), (0, x1), (0, x2), (9, 0), (9, 0), (9, 0)] [(29, 35)] S4 Qr Qt)) Qt) Qt)) Qt)) Qt) : zEnds 118 256 25 [(29, 35), (0, x1), (0, x2), (9, 0), (9, 0), (9, 0)] [(0, y0), (29, 35)] S Qr Qt := zwq_sound [25, 56, 61, 68, 119] 400 25 _ _ _ h
set_option maxRecDepth 20000 in
/-- DiskPoolModel.read from 119 -/
theorem j_256_119 {x1 x2 x3 x5 : Int} {S : zS} {Qr Qt : Int → zS → Prop} (h : Qr x3 S) : zEnds 118 256 119 [(29, 35), (0, x1), (0, x2), (1, x3), (9, 0), (0, x5)] [] S Qr Qt := zwq_sound [25, 56, 61, 68, 119] 400 119 _ _ _ h
set_option maxRecDepth 20000 in
/-- DiskPoolModel.read from 56 -/
theorem j_256_56 {x1 x2 : Int} {S : zS} {Qr Qt : Int → zS → Prop} (h : zEnds 118 256 61 [(29, 35), (0, x1), (0, x2), (9, 0), (9, 0), (9, 0)] [(0, 1), (29, 35)] S Qr Qt) : zEnds 118 256 56 [(29, 35), (0, x1), (0, x2), (9, 0), (9, 0), (9, 0)] [(29, 35)] S Qr Qt := zwq_sound [25, 56, 61, 68, 119] 400 56 _ _ _ h
set_option maxRecDepth 20000 in
/-- DiskPoolModel.read from 61 -/
theorem j_256_61 {x1 x2 y0 : Int} {S : zS} {Qr Qt : Int → zS → Prop} (h : zEnds 118 181 0 [(29, 35), (0, y0), (0, 3)] [] S (fun v1 S1 => (v1 = 0 → zEnds 118 256 75 [(29, 35), (0, x1), (0, x2), (1, 0), (9, 0), (0, 0)] [] S1 Qr Qt) ∧ (¬ (v1 = 0) → zEnds 118 256 68 [(29, 35), (0, x1), (0, x2), (9, 0), (9, 0), (9, 0)] [] S1 Qr Qt)) Qt) : zEnds 118 256 61 [(29, 35), (0, x1), (0, x2), (9, 0), (9, 0), (9, 0)] [(0, y0), (29, 35)] S Qr Qt := zwq_sound [25, 56, 61, 68, 119] 400 61 _ _ _ h
set_option maxRecDepth 20000 in
/-- DiskPoolModel.move from 0 -/
theorem j_257 {x1 x2 x3 x4 : Int} {S : zS} {Qr Qt : Int → zS → Prop} (h : zEnds 118 250 0 [(0, x1)] [] S (fun v1 S1 => (v1 ≠ 0 → zEnds 118 257 29 [(29, 35), (0, x1), (0, x2), (0, x3), (0, x4), (9, 0)] [] S1 Qr Qt) ∧ (¬ (v1 ≠ 0) → zEnds 118 251 0 [(0, x2)] [] S1 (fun v2 S2 => (v2 ≠ 0 → zEnds 118 257 29 [(29, 35), (0, x1), (0, x2), (0, x3), (0, x4), (9, 0)] [] S2 Qr Qt) ∧ (¬ (v2 ≠ 0) → zEnds 118 250 0 [(0, x3)] [] S2 (fun v3 S3 => (v3 ≠ 0 → zEnds 118 257 29 [(29, 35), (0, x1), (0, x2), (0, x3), (0, x4), (9, 0)] [] S3 Qr Qt) ∧ (¬ (v3 ≠ 0) → zEnds 118 251 0 [(0, x4)] [] S3 (fun v4 S4 => (v4 = 0 → zEnds 118 257 34 [(29, 35), (0, x1), (0, x2), (0, x3), (0, x4), (9, 0)] [(0, 0)] S4 Qr Qt) ∧ (¬ (v4 = 0) → zEnds 118 257 29 [(29, 35), (0, x1), (0, x2), (0, x3), (0, x4), (9, 0)] [] S4 Qr Qt)) Qt)) Qt)) Qt)) Qt) : zEnds 118 257 0 [(29, 35), (0, x1), (0, x2), (0, x3), (0, x4), (9, 0)] [] S Qr Qt := zwq_sound [29, 34, 59, 66] 400 0 _ _ _ h
set_option maxRecDepth 20000 in
/-- DiskPoolModel.move from 29 -/
theorem j_257_29 {x1 x2 x3 x4 : Int} {S : zS} {Qr Qt : Int → zS → Prop} (h : zEnds 118 257 34 [(29, 35), (0, x1), (0, x2), (0, x3), (0, x4), (9, 0)] [(0, 1)] S Qr Qt) : zEnds 118 257 29 [(29, 35), (0, x1), (0, x2), (0, x3), (0, x4), (9, 0)] [] S Qr Qt := zwq_sound [29, 34, 59, 66] 400 29 _ _ _ h
set_option maxRecDepth 20000 in
/-- DiskPoolModel.move from 34 -/
theorem j_257_34 {x1 x2 x3 x4 y0 : Int} {S : zS} {Qr Qt : Int → zS → Prop} (h : zEnds 118 181 0 [(29, 35), (0, y0), (0, 1)] [] S (fun v1 S1 => (v1 ≠ 0 → zEnds 118 257 66 [(29, 35), (0, x1), (0, x2), (0, x3), (0, x4), (0, y0)] [] S1 Qr Qt) ∧ (¬ (v1 ≠ 0) → (S1.2.2 35 12 ≠ 0 → zEnds 118 257 59 [(29, 35), (0, x1), (0, x2), (0, x3), (0, x4), (0, y0)] [(0, 0), (29, 35)] S1 Qr Qt) ∧ (¬ (S1.2.2 35 12 ≠ 0) → zEnds 118 257 59 [(29, 35), (0, x1), (0, x2), (0, x3), (0, x4), (0, y0)] [(0, 1), (29, 35)] S1 Qr Qt))) Qt) : zEnds 118 257 34 [(29, 35), (0, x1), (0, x2), (0, x3), (0, x4), (9, 0)] [(0, y0)] S Qr Qt := zwq_sound [29, 34, 59, 66] 400 34 _ _ _ h
set_option maxRecDepth 20000 in
/-- DiskPoolModel.move from 66 -/
theorem j_257_66 {x1 x2 x3 x4 x5 : Int} {S : zS} {Qr Qt : Int → zS → Prop} (h : Qr 0 S) : zEnds 118 257 66 [(29, 35), (0, x1), (0, x2), (0, x3), (0, x4), (0, x5)] [] S Qr Qt := zwq_sound [29, 34, 59, 66] 400 66 _ _ _ h
set_option maxRecDepth 20000 in
/-- DiskPoolModel.move from 59 -/
theorem j_257_59 {x1 x2 x3 x4 x5 y0 : Int} {S : zS} {Qr Qt : Int → zS → Prop} (h : zEnds 118 181 0 [(29, 35), (0, y0), (0, 2)] [] S (fun v1 S1 => (v1 = 0 → zEnds 118 249 0 [(29, 35), (0, 3), (0, x1), (0, x2), (0, x3), (0, x4), (9, 0)] [] S1 (fun v2 S2 => Qr v2 S2) Qt) ∧ (¬ (v1 = 0) → zEnds 118 257 66 [(29, 35), (0, x1), (0, x2), (0, x3), (0, x4), (0, x5)] [] S1 Qr Qt)) Qt) : zEnds 118 257 59 [(29, 35), (0, x1), (0, x2), (0, x3), (0, x4), (0, x5)] [(0, y0), (29, 35)] S Qr Qt := zwq_sound [29, 34, 59, 66] 400 59 _ _ _ h
set_option maxRecDepth 20000 in
/-- DiskPoolModel.remove from 0 -/
theorem j_258 {x1 x2 : Int} {S : zS} {Qr Qt : Int → zS → Prop} (h : zEnds 118 250 0 [(0, x1)] [] S (fun v1 S1 => (v1 ≠ 0 → zEnds 118 258 15 [(29, 35), (0, x1), (0, x2)] [(29, 35)] S1 Qr Qt) ∧ (¬ (v1 ≠ 0) → zEnds 118 251 0 [(0, x2)] [] S1 (fun v2 S2 => (v2 = 0 → zEnds 118 258 20 [(29, 35), (0, x1), (0, x2)] [(0, 0), (29, 35)] S2 Qr Qt) ∧ (¬ (v2 = 0) → zEnds 118 258 15 [(29, 35), (0, x1), (0, x2)] [(29, 35)] S2 Qr Qt)) Qt)) Qt) : zEnds 118 258 0 [(29, 35), (0, x1), (0, x2)] [] S Qr Qt := zwq_sound [15, 20, 40, 47] 400 0 _ _ _ h
set_option maxRecDepth 20000 in
/-- DiskPoolModel.remove from 15 -/
theorem j_258_15 {x1 x2 : Int} {S : zS} {Qr Qt : Int → zS → Prop} (h : zEnds 118 258 20 [(29, 35), (0, x1), (0, x2)] [(0, 1), (29, 35)] S Qr Qt) : zEnds 118 258 15 [(29, 35), (0, x1), (0, x2)] [(29, 35)] S Qr Qt := zwq_sound [15, 20, 40, 47] 400 15 _ _ _ h
set_option maxRecDepth 20000 in
/-- DiskPoolModel.remove from 20 -/
theorem j_258_20 {x1 x2 y0 : Int} {S : zS} {Qr Qt : Int → zS → Prop} (h : zEnds 118 181 0 [(29, 35), (0, y0), (0, 1)] [] S (fun v1 S1 => (v1 ≠ 0 → zEnds 118 258 47 [(29, 35), (0, x1), (0, x2)] [] S1 Qr Qt) ∧ (¬ (v1 ≠ 0) → (S1.2.2 35 12 ≠ 0 → zEnds 118 258 40 [(29, 35), (0, x1), (0, x2)] [(0, 0), (29, 35)] S1 Qr Qt) ∧ (¬ (S1.2.2 35 12 ≠ 0) → zEnds 118 258 40 [(29, 35), (0, x1), (0, x2)] [(0, 1), (29, 35)] S1 Qr Qt))) Qt) : zEnds 118 258 20 [(29, 35), (0, x1), (0, x2)] [(0, y0), (29, 35)] S Qr Qt := zwq_sound [15, 20, 40, 47] 400 20 _ _ _ h
set_option maxRecDepth 20000 in
/-- DiskPoolModel.remove from 47 -/
theorem j_258_47 {x1 x2 : Int} {S : zS} {Qr Qt : Int → zS → Prop} (h : Qr 0 S) : zEnds 118 258 47 [(29, 35), (0, x1), (0, x2)] [] S Qr Qt := zwq_sound [15, 20, 40, 47] 400 47 _ _ _ h
set_option maxRecDepth 20000 in
/-- DiskPoolModel.remove from 40 -/
theorem j_258_40 {x1 x2 y0 : Int} {S : zS} {Qr Qt : Int → zS → Prop} (h : zEnds 118 181 0 [(29, 35), (0, y0), (0, 2)] [] S (fun v1 S1 => (v1 = 0 → zEnds 118 249 0 [(29, 35), (0, 4), (0, x1), (0, x2), (0, 0), (0, 0), (9, 0)] [] S1 (fun v2 S2 => Qr v2 S2) Qt) ∧ (¬ (v1 = 0) → zEnds 118 258 47 [(29, 35), (0, x1), (0, x2)] [] S1 Qr Qt)) Qt) : zEnds 118 258 40 [(29, 35), (0, x1), (0, x2)] [(0, y0), (29, 35)] S Qr Qt := zwq_sound [15, 20, 40, 47] 400 40 _ _ _ h
set_option maxRecDepth 20000 in
/-- DiskPoolModel.sync from 0 -/
theorem j_259 {S : zS} {Qr Qt : Int → zS → Prop} (h : (S.2.2 35 12 ≠ 0 → zEnds 118 259 13 [(29, 35)] [(0, 0), (29, 35)] S Qr Qt) ∧ (¬ (S.2.2 35 12 ≠ 0) → zEnds 118 259 13 [(29, 35)] [(0, 1), (29, 35)] S Qr Qt)) : zEnds 118 259 0 [(29, 35)] [] S Qr Qt := zwq_sound [13] 400 0 _ _ _ h
set_option maxRecDepth 20000 in
/-- DiskPoolModel.sync from 13 -/
theorem j_259_13 {y0 : Int} {S : zS} {Qr Qt : Int → zS → Prop} (h : zEnds 118 181 0 [(29, 35), (0, y0), (0, 1)] [] S (fun v1 S1 => (v1 = 0 → zEnds 118 204 0 [(29, 35), (9, 0), (9, 0), (9, 0)] [] S1 (fun v2 S2 => Qr v2 S2) Qt) ∧ (¬ (v1 = 0) → Qr 0 S1)) Qt) : zEnds 118 259 13 [(29, 35)] [(0, y0), (29, 35)] S Qr Qt := zwq_sound [13] 400 13 _ _ _ h
set_option maxRecDepth 20000 in
/-- DiskPoolModel.node from 0 -/
theorem j_260 {x1 x2 : Int} {S : zS} {Qr Qt : Int → zS → Prop} (h : zEnds 118 250 0 [(0, x1)] [] S (fun v1 S1 => zEnds 118 181 0 [(29, 35), (0, v1), (0, 1)] [] S1 (fun v2 S2 => (v2 ≠ 0 → zEnds 118 260 71 [(29, 35), (0, x1), (0, x2)] [] S2 Qr Qt) ∧ (¬ (v2 ≠ 0) → (S2.2.2 35 12 ≠ 0 → zEnds 118 260 25 [(29, 35), (0, x1), (0, x2)] [(0, 0), (29, 35)] S2 Qr Qt) ∧ (¬ (S2.2.2 35 12 ≠ 0) → zEnds 118 260 25 [(29, 35), (0, x1), (0, x2)] [(0, 1), (29, 35)] S2 Qr Qt))) Qt) Qt) : zEnds 118 260 0 [(29, 35), (0, x1), (0, x2)] [] S Qr Qt := zwq_sound [25, 64, 71] 400 0 _ _ _ h
set_option maxRecDepth 20000 in
/-- DiskPoolModel.node from 71 -/
theorem j_260_71 {x1 x2 : Int} {S : zS} {Qr Qt : Int → zS → Prop} (h : Qr 0 S) : zEnds 118 260 71 [(29, 35), (0, x1), (0, x2)] [] S Qr Qt := zwq_sound [25, 64, 71] 400 71 _ _ _ h
set_option maxRecDepth 20000 in
/-- DiskPoolModel.node from 25 -/
theorem j_260_25 {x1 x2 y0 : Int} {S : zS} {Qr Qt : Int → zS → Prop} (h : zEnds 118 181 0 [(29, 35), (0, y0), (0, 2)] [] S (fun v1 S1 => (v1 ≠ 0 → zEnds 118 260 71 [(29, 35), (0, x1), (0, x2)] [] S1 Qr Qt) ∧ (¬ (v1 ≠ 0) → (0 ≤ z32 (z32 (20 * (zand x1 63)) + 2) ∧ z32 (z32 (20 * (zand x1 63)) + 2) < S1.2.1 45) ∧ zEnds 118 182 0 [(0, x2), (0, 0), (0, z32 (2 + z32 (2 * (S1.2.2 45 (z32 (z32 (20 * (zand x1 63)) + 2))))))] [] S1 (fun v2 S2 => (v2 ≠ 0 → zEnds 118 260 64 [(29, 35), (0, x1), (0, x2)] [(0, 0), (29, 35)] S2 Qr Qt) ∧ (¬ (v2 ≠ 0) → zEnds 118 260 64 [(29, 35), (0, x1), (0, x2)] [(0, 1), (29, 35)] S2 Qr Qt)) Qt)) Qt) : zEnds 118 260 25 [(29, 35), (0, x1), (0, x2)] [(0, y0), (29, 35)] S Qr Qt := zwq_sound [25, 64, 71] 400 25 _ _ _ h
set_option maxRecDepth 20000 in
/-- DiskPoolModel.node from 64 -/
theorem j_260_64 {x1 x2 y0 : Int} {S : zS} {Qr Qt : Int → zS → Prop} (h : zEnds 118 181 0 [(29, 35), (0, y0), (0, 3)] [] S (fun v1 S1 => (v1 = 0 → (0 ≤ z32 (z32 (20 * x1) + x2) ∧ z32 (z32 (20 * x1) + x2) < S1.2.1 45) ∧ Qr (S1.2.2 45 (z32 (z32 (20 * x1) + x2))) S1) ∧ (¬ (v1 = 0) → zEnds 118 260 71 [(29, 35), (0, x1), (0, x2)] [] S1 Qr Qt)) Qt) : zEnds 118 260 64 [(29, 35), (0, x1), (0, x2)] [(0, y0), (29, 35)] S Qr Qt := zwq_sound [25, 64, 71] 400 64 _ _ _ h
set_option maxRecDepth 20000 in
/-- DiskPoolModel.count from 0 -/
theorem j_261 {x1 : Int} {S : zS} {Qr Qt : Int → zS → Prop} (h : zEnds 118 261 4 [(29, 35), (0, x1), (0, 0), (0, 0), (9, 0), (9, 0)] [] S Qr Qt) : zEnds 118 261 0 [(29, 35), (0, x1), (9, 0), (9, 0), (9, 0), (9, 0)] [] S Qr Qt := zwq_sound [43, 70, 71, 98, 99, 146, 147] 400 0 _ _ _ h
set_option maxRecDepth 20000 in
/-- DiskPoolModel.count from 4 -/
theorem j_261_4 {x1 x2 x3 : Int} {S : zS} {Qr Qt : Int → zS → Prop} (h : (S.2.2 35 3 ≤ x3 → Qr x2 S) ∧ (¬ (S.2.2 35 3 ≤ x3) → zEnds 118 261 15 [(29, 35), (0, x1), (0, x2), (0, x3), (0, 0), (9, 0)] [] S Qr Qt)) : zEnds 118 261 4 [(29, 35), (0, x1), (0, x2), (0, x3), (9, 0), (9, 0)] [] S Qr Qt := zwq_sound [43, 70, 71, 98, 99, 146, 147] 400 4 _ _ _ h
set_option maxRecDepth 20000 in
/-- DiskPoolModel.count from 15 -/
theorem j_261_15 {x1 x2 x3 x4 : Int} {S : zS} {Qr Qt : Int → zS → Prop} (h : (S.2.2 35 1 ≤ x4 → zEnds 118 261 4 [(29, 35), (0, x1), (0, x2), (0, z32 (x3 + 1)), (9, 0), (9, 0)] [] S Qr Qt) ∧ (¬ (S.2.2 35 1 ≤ x4) → (x4 < z32 ((S.2.2 35 2) * (S.2.2 35 4)) → zEnds 118 261 43 [(29, 35), (0, x1), (0, x2), (0, x3), (0, x4), (9, 0)] [(0, 0)] S Qr Qt) ∧ (¬ (x4 < z32 ((S.2.2 35 2) * (S.2.2 35 4))) → zEnds 118 261 43 [(29, 35), (0, x1), (0, x2), (0, x3), (0, x4), (9, 0)] [(0, 1)] S Qr Qt))) : zEnds 118 261 15 [(29, 35), (0, x1), (0, x2), (0, x3), (0, x4), (9, 0)] [] S Qr Qt := zwq_sound [43, 70, 71, 98, 99, 146, 147] 400 15 _ _ _ h
set_option maxRecDepth 20000 in
/-- DiskPoolModel.count from 73 -/
theorem j_261_73 {x1 x2 x3 x4 x5 : Int} {S : zS} {Qr Qt : Int → zS → Prop} (h : (x1 ≠ 3 → zEnds 118 261 101 [(29, 35), (0, x1), (0, x2), (0, x3), (0, x4), (0, x5)] [] S Qr Qt) ∧ (¬ (x1 ≠ 3) → (x5 ≠ 0 → zEnds 118 261 98 [(29, 35), (0, x1), (0, x2), (0, x3), (0, x4), (0, x5)] [(0, x2)] S Qr Qt) ∧ (¬ (x5 ≠ 0) → zEnds 118 189 0 [(29, 35), (0, x3), (0, x4), (9, 0)] [] S (fun v1 S1 => (v1 = 0 → zEnds 118 261 98 [(29, 35), (0, x1), (0, x2), (0, x3), (0, x4), (0, x5)] [(0, x2)] S1 Qr Qt) ∧ (¬ (v1 = 0) → zEnds 118 261 99 [(29, 35), (0, x1), (0, x2), (0, x3), (0, x4), (0, x5)] [(0, 1), (0, x2)] S1 Qr Qt)) Qt))) : zEnds 118 261 73 [(29, 35), (0, x1), (0, x2), (0, x3), (0, x4), (0, x5)] [] S Qr Qt := zwq_sound [43, 70, 71, 98, 99, 146, 147] 400 73 _ _ _ h
set_option maxRecDepth 20000 in
/-- DiskPoolModel.count from 101 -/
theorem j_261_101 {x1 x2 x3 x4 x5 : Int} {S : zS} {Qr Qt : Int → zS → Prop} (h : (x1 ≠ 4 → zEnds 118 261 149 [(29, 35), (0, x1), (0, x2), (0, x3), (0, x4), (9, 0)] [] S Qr Qt) ∧ (¬ (x1 ≠ 4) → (x5 = 0 → zEnds 118 261 146 [(29, 35), (0, x1), (0, x2), (0, x3), (0, x4), (0, x5)] [(0, x2)] S Qr Qt) ∧ (¬ (x5 = 0) → zEnds 118 184 0 [(29, 35), (0, x3), (0, x4)] [] S (fun v1 S1 => (0 ≤ v1 ∧ v1 < S1.2.1 37) ∧ ((S1.2.2 37 v1 = 0 → zEnds 118 261 146 [(29, 35), (0, x1), (0, x2), (0, x3), (0, x4), (0, x5)] [(0, x2)] S1 Qr Qt) ∧ (¬ (S1.2.2 37 v1 = 0) → zEnds 118 184 0 [(29, 35), (0, x3), (0, x4)] [] S1 (fun v2 S2 => zEnds 118 192 0 [(29, 35), (0, x3), (0, v2), (9, 0)] [] S2 (fun v3 S3 => ((0 : Int) ≤ v3 → zEnds 118 261 146 [(29, 35), (0, x1), (0, x2), (0, x3), (0, x4), (0, x5)] [(0, x2)] S3 Qr Qt) ∧ (¬ ((0 : Int) ≤ v3) → zEnds 118 261 147 [(29, 35), (0, x1), (0, x2), (0, x3), (0, x4), (0, x5)] [(0, 1), (0, x2)] S3 Qr Qt)) Qt) Qt))) Qt))) : zEnds 118 261 101 [(29, 35), (0, x1), (0, x2), (0, x3), (0, x4), (0, x5)] [] S Qr Qt := zwq_sound [43, 70, 71, 98, 99, 146, 147] 400 101 _ _ _ h
set_option maxRecDepth 20000 in
/-- DiskPoolModel.count from 149 -/
theorem j_261_149 {x1 x2 x3 x4 : Int} {S : zS} {Qr Qt : Int → zS → Prop} (h : zEnds 118 261 15 [(29, 35), (0, x1), (0, x2), (0, x3), (0, z32 (x4 + 1)), (9, 0)] [] S Qr Qt) : zEnds 118 261 149 [(29, 35), (0, x1), (0, x2), (0, x3), (0, x4), (9, 0)] [] S Qr Qt := zwq_sound [43, 70, 71, 98, 99, 146, 147] 400 149 _ _ _ h
set_option maxRecDepth 20000 in
/-- DiskPoolModel.count from 43 -/
theorem j_261_43 {x1 x2 x3 x4 y0 : Int} {S : zS} {Qr Qt : Int → zS → Prop} (h : (x1 ≠ 2 → zEnds 118 261 73 [(29, 35), (0, x1), (0, x2), (0, x3), (0, x4), (0, y0)] [] S Qr Qt) ∧ (¬ (x1 ≠ 2) → (y0 ≠ 0 → zEnds 118 261 70 [(29, 35), (0, x1), (0, x2), (0, x3), (0, x4), (0, y0)] [(0, x2)] S Qr Qt) ∧ (¬ (y0 ≠ 0) → zEnds 118 188 0 [(29, 35), (0, x3), (0, x4)] [] S (fun v1 S1 => ((0 : Int) ≤ v1 → zEnds 118 261 70 [(29, 35), (0, x1), (0, x2), (0, x3), (0, x4), (0, y0)] [(0, x2)] S1 Qr Qt) ∧ (¬ ((0 : Int) ≤ v1) → zEnds 118 261 71 [(29, 35), (0, x1), (0, x2), (0, x3), (0, x4), (0, y0)] [(0, 1), (0, x2)] S1 Qr Qt)) Qt))) : zEnds 118 261 43 [(29, 35), (0, x1), (0, x2), (0, x3), (0, x4), (9, 0)] [(0, y0)] S Qr Qt := zwq_sound [43, 70, 71, 98, 99, 146, 147] 400 43 _ _ _ h
set_option maxRecDepth 20000 in
/-- DiskPoolModel.count from 98 -/
theorem j_261_98 {x1 x2 x3 x4 x5 y0 : Int} {S : zS} {Qr Qt : Int → zS → Prop} (h : zEnds 118 261 99 [(29, 35), (0, x1), (0, x2), (0, x3), (0, x4), (0, x5)] [(0, 0), (0, y0)] S Qr Qt) : zEnds 118 261 98 [(29, 35), (0, x1), (0, x2), (0, x3), (0, x4), (0, x5)] [(0, y0)] S Qr Qt := zwq_sound [43, 70, 71, 98, 99, 146, 147] 400 98 _ _ _ h
set_option maxRecDepth 20000 in
/-- DiskPoolModel.count from 99 -/
theorem j_261_99 {x1 x2 x3 x4 x5 y0 y1 : Int} {S : zS} {Qr Qt : Int → zS → Prop} (h : zEnds 118 261 101 [(29, 35), (0, x1), (0, z32 (y1 + y0)), (0, x3), (0, x4), (0, x5)] [] S Qr Qt) : zEnds 118 261 99 [(29, 35), (0, x1), (0, x2), (0, x3), (0, x4), (0, x5)] [(0, y0), (0, y1)] S Qr Qt := zwq_sound [43, 70, 71, 98, 99, 146, 147] 400 99 _ _ _ h
set_option maxRecDepth 20000 in
/-- DiskPoolModel.count from 146 -/
theorem j_261_146 {x1 x2 x3 x4 x5 y0 : Int} {S : zS} {Qr Qt : Int → zS → Prop} (h : zEnds 118 261 147 [(29, 35), (0, x1), (0, x2), (0, x3), (0, x4), (0, x5)] [(0, 0), (0, y0)] S Qr Qt) : zEnds 118 261 146 [(29, 35), (0, x1), (0, x2), (0, x3), (0, x4), (0, x5)] [(0, y0)] S Qr Qt := zwq_sound [43, 70, 71, 98, 99, 146, 147] 400 146 _ _ _ h
set_option maxRecDepth 20000 in
/-- DiskPoolModel.count from 147 -/
theorem j_261_147 {x1 x2 x3 x4 x5 y0 y1 : Int} {S : zS} {Qr Qt : Int → zS → Prop} (h : zEnds 118 261 149 [(29, 35), (0, x1), (0, z32 (y1 + y0)), (0, x3), (0, x4), (9, 0)] [] S Qr Qt) : zEnds 118 261 147 [(29, 35), (0, x1), (0, x2), (0, x3), (0, x4), (0, x5)] [(0, y0), (0, y1)] S Qr Qt := zwq_sound [43, 70, 71, 98, 99, 146, 147] 400 147 _ _ _ h
set_option maxRecDepth 20000 in
/-- DiskPoolModel.count from 70 -/
theorem j_261_70 {x1 x2 x3 x4 x5 y0 : Int} {S : zS} {Qr Qt : Int → zS → Prop} (h : zEnds 118 261 71 [(29, 35), (0, x1), (0, x2), (0, x3), (0, x4), (0, x5)] [(0, 0), (0, y0)] S Qr Qt) : zEnds 118 261 70 [(29, 35), (0, x1), (0, x2), (0, x3), (0, x4), (0, x5)] [(0, y0)] S Qr Qt := zwq_sound [43, 70, 71, 98, 99, 146, 147] 400 70 _ _ _ h
set_option maxRecDepth 20000 in
/-- DiskPoolModel.count from 71 -/
theorem j_261_71 {x1 x2 x3 x4 x5 y0 y1 : Int} {S : zS} {Qr Qt : Int → zS → Prop} (h : zEnds 118 261 73 [(29, 35), (0, x1), (0, z32 (y1 + y0)), (0, x3), (0, x4), (0, x5)] [] S Qr Qt) : zEnds 118 261 71 [(29, 35), (0, x1), (0, x2), (0, x3), (0, x4), (0, x5)] [(0, y0), (0, y1)] S Qr Qt := zwq_sound [43, 70, 71, 98, 99, 146, 147] 400 71 _ _ _ h
set_option maxRecDepth 20000 in
/-- DiskPoolModel.tree from 0 -/
theorem j_262 {x1 : Int} {S : zS} {Qr Qt : Int → zS → Prop} (h : (x1 = 13 → zEnds 118 262 42 [(29, 35), (9, 0), (0, 0), (0, 0)] [] S Qr Qt) ∧ (¬ (x1 = 13) → (x1 = 14 → zEnds 118 262 77 [(29, 35), (9, 0), (0, 0), (0, 0)] [] S Qr Qt) ∧ (¬ (x1 = 14) → (x1 = 15 → zEnds 118 220 0 [(29, 35), (9, 0), (9, 0)] [] S (fun v1 S1 => Qr v1 S1) Qt) ∧ (¬ (x1 = 15) → (x1 = 16 → Qr (S.2.2 35 28) S) ∧ (¬ (x1 = 16) → (x1 = 17 → Qr (S.2.2 35 29) S) ∧ (¬ (x1 = 17) → (x1 = 18 → zEnds 118 203 0 [(29, 35)] [] S (fun v2 S2 => Qr (z32 v2) S2) Qt) ∧ (¬ (x1 = 18) → Qr 0 S))))))) : zEnds 118 262 0 [(29, 35), (0, x1), (9, 0), (9, 0)] [] S Qr Qt := zwq_sound [65, 97] 400 0 _ _ _ h
set_option maxRecDepth 20000 in
/-- DiskPoolModel.tree from 42 -/
theorem j_262_42 {x2 x3 : Int} {S : zS} {Qr Qt : Int → zS → Prop} (h : zEnds 118 185 0 [(29, 35)] [] S (fun v1 S1 => (v1 ≤ x3 → Qr x2 S1) ∧ (¬ (v1 ≤ x3) → (0 ≤ x3 ∧ x3 < S1.2.1 46) ∧ ((S1.2.2 46 x3 ≠ 0 → zEnds 118 262 65 [(29, 35), (9, 0), (0, x2), (0, x3)] [(0, 0), (0, x2)] S1 Qr Qt) ∧ (¬ (S1.2.2 46 x3 ≠ 0) → zEnds 118 262 65 [(29, 35), (9, 0), (0, x2), (0, x3)] [(0, 1), (0, x2)] S1 Qr Qt)))) Qt) : zEnds 118 262 42 [(29, 35), (9, 0), (0, x2), (0, x3)] [] S Qr Qt := zwq_sound [65, 97] 400 42 _ _ _ h
set_option maxRecDepth 20000 in
/-- DiskPoolModel.tree from 77 -/
theorem j_262_77 {x2 x3 : Int} {S : zS} {Qr Qt : Int → zS → Prop} (h : ((64 : Int) ≤ x3 → Qr x2 S) ∧ (¬ ((64 : Int) ≤ x3) → zEnds 118 224 0 [(29, 35), (0, x3)] [] S (fun v1 S1 => (v1 ≠ 0 → zEnds 118 262 97 [(29, 35), (9, 0), (0, x2), (0, x3)] [(0, 0), (0, x2)] S1 Qr Qt) ∧ (¬ (v1 ≠ 0) → zEnds 118 262 97 [(29, 35), (9, 0), (0, x2), (0, x3)] [(0, 1), (0, x2)] S1 Qr Qt)) Qt)) : zEnds 118 262 77 [(29, 35), (9, 0), (0, x2), (0, x3)] [] S Qr Qt := zwq_sound [65, 97] 400 77 _ _ _ h
set_option maxRecDepth 20000 in
/-- DiskPoolModel.tree from 65 -/
theorem j_262_65 {x2 x3 y0 y1 : Int} {S : zS} {Qr Qt : Int → zS → Prop} (h : zEnds 118 262 42 [(29, 35), (9, 0), (0, z32 (y1 + y0)), (0, z32 (x3 + 1))] [] S Qr Qt) : zEnds 118 262 65 [(29, 35), (9, 0), (0, x2), (0, x3)] [(0, y0), (0, y1)] S Qr Qt := zwq_sound [65, 97] 400 65 _ _ _ h
set_option maxRecDepth 20000 in
/-- DiskPoolModel.tree from 97 -/
theorem j_262_97 {x2 x3 y0 y1 : Int} {S : zS} {Qr Qt : Int → zS → Prop} (h : zEnds 118 262 77 [(29, 35), (9, 0), (0, z32 (y1 + y0)), (0, z32 (x3 + 1))] [] S Qr Qt) : zEnds 118 262 97 [(29, 35), (9, 0), (0, x2), (0, x3)] [(0, y0), (0, y1)] S Qr Qt := zwq_sound [65, 97] 400 97 _ _ _ h
set_option maxRecDepth 20000 in
/-- DiskPoolModel.look from 0 -/
theorem j_263 {x1 : Int} {S : zS} {Qr Qt : Int → zS → Prop} (h : (x1 < 0 → zEnds 118 263 11 [(29, 35), (0, x1), (9, 0), (9, 0)] [(29, 35)] S Qr Qt) ∧ (¬ (x1 < 0) → (x1 ≤ 19 → zEnds 118 263 16 [(29, 35), (0, x1), (9, 0), (9, 0)] [(0, 0), (29, 35)] S Qr Qt) ∧ (¬ (x1 ≤ 19) → zEnds 118 263 11 [(29, 35), (0, x1), (9, 0), (9, 0)] [(29, 35)] S Qr Qt))) : zEnds 118 263 0 [(29, 35), (0, x1), (9, 0), (9, 0)] [] S Qr Qt := zwq_sound [11, 16, 193] 400 0 _ _ _ h
set_option maxRecDepth 20000 in
/-- DiskPoolModel.look from 170 -/
theorem j_263_170 {x2 x3 : Int} {S : zS} {Qr Qt : Int → zS → Prop} (h : (S.2.2 35 1 ≤ x3 → Qr x2 S) ∧ (¬ (S.2.2 35 1 ≤ x3) → (0 ≤ x3 ∧ x3 < S.2.1 37) ∧ ((S.2.2 37 x3 = 0 → zEnds 118 263 193 [(29, 35), (9, 0), (0, x2), (0, x3)] [(0, 0), (0, x2)] S Qr Qt) ∧ (¬ (S.2.2 37 x3 = 0) → zEnds 118 263 193 [(29, 35), (9, 0), (0, x2), (0, x3)] [(0, 1), (0, x2)] S Qr Qt)))) : zEnds 118 263 170 [(29, 35), (9, 0), (0, x2), (0, x3)] [] S Qr Qt := zwq_sound [11, 16, 193] 400 170 _ _ _ h
set_option maxRecDepth 20000 in
/-- DiskPoolModel.look from 11 -/
theorem j_263_11 {x1 : Int} {S : zS} {Qr Qt : Int → zS → Prop} (h : zEnds 118 263 16 [(29, 35), (0, x1), (9, 0), (9, 0)] [(0, 1), (29, 35)] S Qr Qt) : zEnds 118 263 11 [(29, 35), (0, x1), (9, 0), (9, 0)] [(29, 35)] S Qr Qt := zwq_sound [11, 16, 193] 400 11 _ _ _ h
set_option maxRecDepth 20000 in
/-- DiskPoolModel.look from 16 -/
theorem j_263_16 {x1 y0 : Int} {S : zS} {Qr Qt : Int → zS → Prop} (h : zEnds 118 181 0 [(29, 35), (0, y0), (0, 1)] [] S (fun v1 S1 => (v1 = 0 → (x1 ≤ 12 → (x1 = 0 → (S1.2.2 35 12 = 0 → Qr 0 S1) ∧ (¬ (S1.2.2 35 12 = 0) → Qr 1 S1)) ∧ (¬ (x1 = 0) → (x1 = 1 → Qr (S1.2.2 35 14) S1) ∧ (¬ (x1 = 1) → (x1 = 2 → zEnds 118 261 0 [(29, 35), (0, x1), (9, 0), (9, 0), (9, 0), (9, 0)] [] S1 (fun v2 S2 => Qr v2 S2) Qt) ∧ (¬ (x1 = 2) → (x1 = 3 → zEnds 118 261 0 [(29, 35), (0, x1), (9, 0), (9, 0), (9, 0), (9, 0)] [] S1 (fun v3 S3 => Qr v3 S3) Qt) ∧ (¬ (x1 = 3) → (x1 = 4 → zEnds 118 261 0 [(29, 35), (0, x1), (9, 0), (9, 0), (9, 0), (9, 0)] [] S1 (fun v4 S4 => Qr v4 S4) Qt) ∧ (¬ (x1 = 4) → (x1 = 5 → zEnds 118 185 0 [(29, 35)] [] S1 (fun v5 S5 => Qr v5 S5) Qt) ∧ (¬ (x1 = 5) → (x1 = 6 → Qr 0 S1) ∧ (¬ (x1 = 6) → (x1 = 7 → Qr (z32 ((S1.2.2 35 3) * (S1.2.2 35 4))) S1) ∧ (¬ (x1 = 7) → (x1 = 8 → Qr (S1.2.2 35 15) S1) ∧ (¬ (x1 = 8) → (x1 = 9 → Qr (S1.2.2 35 2) S1) ∧ (¬ (x1 = 9) → (x1 = 10 → Qr (S1.2.2 35 1) S1) ∧ (¬ (x1 = 10) → (x1 = 11 → zEnds 118 263 170 [(29, 35), (9, 0), (0, 0), (0, 0)] [] S1 Qr Qt) ∧ (¬ (x1 = 11) → (x1 = 12 → Qr (S1.2.2 35 17) S1) ∧ (¬ (x1 = 12) → zEnds 118 261 0 [(29, 35), (0, x1), (9, 0), (9, 0), (9, 0), (9, 0)] [] S1 (fun v6 S6 => Qr v6 S6) Qt)))))))))))))) ∧ (¬ (x1 ≤ 12) → (S1.2.2 35 12 = 0 → Qr (-1) S1) ∧ (¬ (S1.2.2 35 12 = 0) → zEnds 118 262 0 [(29, 35), (0, x1), (9, 0), (9, 0)] [] S1 (fun v7 S7 => Qr v7 S7) Qt))) ∧ (¬ (v1 = 0) → Qr 0 S1)) Qt) : zEnds 118 263 16 [(29, 35), (0, x1), (9, 0), (9, 0)] [(0, y0), (29, 35)] S Qr Qt := zwq_sound [11, 16, 193] 400 16 _ _ _ h
set_option maxRecDepth 20000 in
/-- DiskPoolModel.look from 193 -/
theorem j_263_193 {x2 x3 y0 y1 : Int} {S : zS} {Qr Qt : Int → zS → Prop} (h : zEnds 118 263 170 [(29, 35), (9, 0), (0, z32 (y1 + y0)), (0, z32 (x3 + 1))] [] S Qr Qt) : zEnds 118 263 193 [(29, 35), (9, 0), (0, x2), (0, x3)] [(0, y0), (0, y1)] S Qr Qt := zwq_sound [11, 16, 193] 400 193 _ _ _ h
set_option maxRecDepth 20000 in
/-- DiskPoolModel.place from 0 -/
theorem j_264 {x1 x2 : Int} {S : zS} {Qr Qt : Int → zS → Prop} (h : (x1 < 0 → zEnds 118 264 30 [(29, 35), (0, x1), (0, x2)] [(29, 35)] S Qr Qt) ∧ (¬ (x1 < 0) → (S.2.2 35 3 ≤ x1 → zEnds 118 264 30 [(29, 35), (0, x1), (0, x2)] [(29, 35)] S Qr Qt) ∧ (¬ (S.2.2 35 3 ≤ x1) → (x2 < 0 → zEnds 118 264 30 [(29, 35), (0, x1), (0, x2)] [(29, 35)] S Qr Qt) ∧ (¬ (x2 < 0) → (x2 < z32 ((S.2.2 35 2) * (S.2.2 35 4)) → zEnds 118 264 35 [(29, 35), (0, x1), (0, x2)] [(0, 0), (29, 35)] S Qr Qt) ∧ (¬ (x2 < z32 ((S.2.2 35 2) * (S.2.2 35 4))) → zEnds 118 264 30 [(29, 35), (0, x1), (0, x2)] [(29, 35)] S Qr Qt))))) : zEnds 118 264 0 [(29, 35), (0, x1), (0, x2)] [] S Qr Qt := zwq_sound [30, 35] 400 0 _ _ _ h
set_option maxRecDepth 20000 in
/-- DiskPoolModel.place from 30 -/
theorem j_264_30 {x1 x2 : Int} {S : zS} {Qr Qt : Int → zS → Prop} (h : zEnds 118 264 35 [(29, 35), (0, x1), (0, x2)] [(0, 1), (29, 35)] S Qr Qt) : zEnds 118 264 30 [(29, 35), (0, x1), (0, x2)] [(29, 35)] S Qr Qt := zwq_sound [30, 35] 400 30 _ _ _ h
set_option maxRecDepth 20000 in
/-- DiskPoolModel.place from 35 -/
theorem j_264_35 {x1 x2 y0 : Int} {S : zS} {Qr Qt : Int → zS → Prop} (h : zEnds 118 181 0 [(29, 35), (0, y0), (0, 1)] [] S (fun v1 S1 => (v1 = 0 → zEnds 118 188 0 [(29, 35), (0, x1), (0, x2)] [] S1 (fun v2 S2 => Qr v2 S2) Qt) ∧ (¬ (v1 = 0) → Qr 0 S1)) Qt) : zEnds 118 264 35 [(29, 35), (0, x1), (0, x2)] [(0, y0), (29, 35)] S Qr Qt := zwq_sound [30, 35] 400 35 _ _ _ h
set_option maxRecDepth 20000 in
/-- DiskPool.spoil from 0 -/
theorem j_160 {x1 x2 x3 x4 x5 : Int} {S : zS} {Qr Qt : Int → zS → Prop} (h : zEnds 80 171 0 [(20, 0), (0, x1)] [] S (fun v1 S1 => (x2 < 0 → zEnds 80 160 33 [(9, 0), (9, 0), (9, 0), (9, 0), (9, 0), (9, 0), (9, 0), (9, 0)] [] S1 Qr Qt) ∧ (¬ (x2 < 0) → (S1.2.2 1 2 ≤ x2 → zEnds 80 160 33 [(9, 0), (9, 0), (9, 0), (9, 0), (9, 0), (9, 0), (9, 0), (9, 0)] [] S1 Qr Qt) ∧ (¬ (S1.2.2 1 2 ≤ x2) → (x4 < 1 → zEnds 80 160 33 [(9, 0), (9, 0), (9, 0), (9, 0), (9, 0), (9, 0), (9, 0), (9, 0)] [] S1 Qr Qt) ∧ (¬ (x4 < 1) → (x4 ≤ 8 → (x3 < 0 → zEnds 80 160 73 [(9, 0), (9, 0), (9, 0), (9, 0), (9, 0), (9, 0), (9, 0), (9, 0)] [] S1 Qr Qt) ∧ (¬ (x3 < 0) → (z32 (70 - x4) < x3 → zEnds 80 160 73 [(9, 0), (9, 0), (9, 0), (9, 0), (9, 0), (9, 0), (9, 0), (9, 0)] [] S1 Qr Qt) ∧ (¬ (z32 (70 - x4) < x3) → (zcmp (zlshl x5 (z32 (64 - (z32 (8 * x4))))) 0 ≠ 0 → (S1.2.2 0 11 = 0 → zEnds 80 160 104 [(20, 0), (0, x1), (0, x2), (0, x3), (0, x4), (1, x5), (9, 0), (9, 0)] [(0, (-1))] S1 Qr Qt) ∧ (¬ (S1.2.2 0 11 = 0) → zEnds 80 44 0 [(23, 12), (0, x2), (0, x1), (9, 0), (9, 0)] [] S1 (fun v2 S2 => zEnds 80 160 104 [(20, 0), (0, x1), (0, x2), (0, x3), (0, x4), (1, x5), (9, 0), (9, 0)] [(0, v2)] S2 Qr Qt) Qt)) ∧ (¬ (zcmp (zlshl x5 (z32 (64 - (z32 (8 * x4))))) 0 ≠ 0) → zEnds 80 160 73 [(9, 0), (9, 0), (9, 0), (9, 0), (9, 0), (9, 0), (9, 0), (9, 0)] [] S1 Qr Qt)))) ∧ (¬ (x4 ≤ 8) → zEnds 80 160 33 [(9, 0), (9, 0), (9, 0), (9, 0), (9, 0), (9, 0), (9, 0), (9, 0)] [] S1 Qr Qt))))) Qt) : zEnds 80 160 0 [(20, 0), (0, x1), (0, x2), (0, x3), (0, x4), (1, x5), (9, 0), (9, 0)] [] S Qr Qt := zwq_sound [104] 400 0 _ _ _ h
set_option maxRecDepth 20000 in
/-- DiskPool.spoil from 33 -/
theorem j_160_33 {S : zS} {Qr Qt : Int → zS → Prop} (h : (118 ≤ S.1) ∧ ((1 : Int) ≠ 0 ∧ Qt 1 S)) : zEnds 80 160 33 [(9, 0), (9, 0), (9, 0), (9, 0), (9, 0), (9, 0), (9, 0), (9, 0)] [] S Qr Qt := zwq_sound [104] 400 33 _ _ _ h
set_option maxRecDepth 20000 in
/-- DiskPool.spoil from 73 -/
theorem j_160_73 {S : zS} {Qr Qt : Int → zS → Prop} (h : (118 ≤ S.1) ∧ ((1 : Int) ≠ 0 ∧ Qt 1 S)) : zEnds 80 160 73 [(9, 0), (9, 0), (9, 0), (9, 0), (9, 0), (9, 0), (9, 0), (9, 0)] [] S Qr Qt := zwq_sound [104] 400 73 _ _ _ h
set_option maxRecDepth 20000 in
/-- DiskPool.spoil from 160 -/
theorem j_160_160 {S : zS} {Qr Qt : Int → zS → Prop} (h : ((0 : Int) = 0 ∨ (0 : Int) = 1) ∧ Qr 0 S) : zEnds 80 160 160 [(9, 0), (9, 0), (9, 0), (9, 0), (9, 0), (9, 0), (9, 0), (9, 0)] [] S Qr Qt := zwq_sound [104] 400 160 _ _ _ h
set_option maxRecDepth 20000 in
/-- DiskPool.spoil from 162 -/
theorem j_160_162 {x1 x2 : Int} {S : zS} {Qr Qt : Int → zS → Prop} (h : zEnds 80 36 0 [(22, 3), (0, x1), (0, x2), (9, 0)] [] S (fun v1 S1 => ((1 : Int) = 0 ∨ (1 : Int) = 1) ∧ Qr 1 S1) Qt) : zEnds 80 160 162 [(20, 0), (0, x1), (0, x2), (9, 0), (9, 0), (9, 0), (9, 0), (9, 0)] [] S Qr Qt := zwq_sound [104] 400 162 _ _ _ h
set_option maxRecDepth 20000 in
/-- DiskPool.spoil from 104 -/
theorem j_160_104 {x1 x2 x3 x4 x5 y0 : Int} {S : zS} {Qr Qt : Int → zS → Prop} (h : (y0 ≠ (-1) → zEnds 80 33 0 [(22, 3), (0, x1), (0, x2), (0, x3), (0, x4), (1, x5), (9, 0), (9, 0), (9, 0)] [] S (fun v1 S1 => zEnds 80 35 0 [(22, 3), (9, 0)] [] S1 (fun v2 S2 => (v2 ≠ 0 → zEnds 80 160 160 [(9, 0), (9, 0), (9, 0), (9, 0), (9, 0), (9, 0), (9, 0), (9, 0)] [] S2 Qr Qt) ∧ (¬ (v2 ≠ 0) → zEnds 80 34 0 [(22, 3), (9, 0)] [] S2 (fun v3 S3 => (v3 = 0 → zEnds 80 160 162 [(20, 0), (0, x1), (0, x2), (9, 0), (9, 0), (9, 0), (9, 0), (9, 0)] [] S3 Qr Qt) ∧ (¬ (v3 = 0) → zEnds 80 49 0 [(23, 12), (0, y0), (9, 0), (9, 0)] [] S3 (fun v4 S4 => (v4 = 0 → zEnds 80 160 162 [(20, 0), (0, x1), (0, x2), (9, 0), (9, 0), (9, 0), (9, 0), (9, 0)] [] S4 Qr Qt) ∧ (¬ (v4 = 0) → zEnds 80 160 160 [(9, 0), (9, 0), (9, 0), (9, 0), (9, 0), (9, 0), (9, 0), (9, 0)] [] S4 Qr Qt)) Qt)) Qt)) Qt) Qt) ∧ (¬ (y0 ≠ (-1)) → ((0 : Int) = 0 ∨ (0 : Int) = 1) ∧ Qr 0 S)) : zEnds 80 160 104 [(20, 0), (0, x1), (0, x2), (0, x3), (0, x4), (1, x5), (9, 0), (9, 0)] [(0, y0)] S Qr Qt := zwq_sound [104] 400 104 _ _ _ h
set_option maxRecDepth 20000 in
/-- DiskPool.node from 0 -/
theorem j_164 {x1 x2 : Int} {S : zS} {Qr Qt : Int → zS → Prop} (h : zEnds 80 169 0 [(20, 0), (0, x1)] [] S (fun v1 S1 => zEnds 80 172 0 [(20, 0)] [] S1 (fun v2 S2 => (x2 < 0 → zEnds 80 164 29 [(20, 0), (0, x1), (0, x2), (9, 0)] [] S2 Qr Qt) ∧ (¬ (x2 < 0) → zEnds 80 103 0 [(26, 26), (0, x1)] [] S2 (fun v3 S3 => (x2 < z32 (3 + z32 (2 * v3)) → (x2 = 0 → zEnds 80 102 0 [(26, 26), (0, x1)] [] S3 (fun v4 S4 => Qr v4 S4) Qt) ∧ (¬ (x2 = 0) → (x2 = 1 → zEnds 80 104 0 [(26, 26), (0, x1)] [] S3 (fun v5 S5 => Qr v5 S5) Qt) ∧ (¬ (x2 = 1) → (x2 = 2 → zEnds 80 103 0 [(26, 26), (0, x1)] [] S3 (fun v6 S6 => Qr v6 S6) Qt) ∧ (¬ (x2 = 2) → ((2 : Int) ≠ 0) ∧ (((2 : Int) ≠ 0) ∧ ((zrem x2 2 ≠ 1 → zEnds 80 106 0 [(26, 26), (0, x1), (0, zdiv (z32 (x2 - 3)) 2)] [] S3 (fun v7 S7 => Qr v7 S7) Qt) ∧ (¬ (zrem x2 2 ≠ 1) → zEnds 80 105 0 [(26, 26), (0, x1), (0, zdiv (z32 (x2 - 3)) 2)] [] S3 (fun v8 S8 => Qr v8 S8) Qt))))))) ∧ (¬ (x2 < z32 (3 + z32 (2 * v3))) → zEnds 80 164 29 [(20, 0), (0, x1), (0, x2), (9, 0)] [] S3 Qr Qt)) Qt)) Qt) Qt) : zEnds 80 164 0 [(20, 0), (0, x1), (0, x2), (9, 0)] [] S Qr Qt := zwq_sound [29] 400 0 _ _ _ h
set_option maxRecDepth 20000 in
/-- DiskPool.node from 29 -/
theorem j_164_29 {x1 x2 : Int} {S : zS} {Qr Qt : Int → zS → Prop} (h : (118 ≤ S.1) ∧ ((3 : Int) ≠ 0 ∧ Qt 3 S)) : zEnds 80 164 29 [(20, 0), (0, x1), (0, x2), (9, 0)] [] S Qr Qt := zwq_sound [29] 400 29 _ _ _ h
set_option maxRecDepth 20000 in
/-- DiskPool.look from 0 -/
theorem j_166 {x1 : Int} {S : zS} {Qr Qt : Int → zS → Prop} (h : (x1 < 0 → zEnds 80 166 10 [(20, 0), (0, x1)] [] S Qr Qt) ∧ (¬ (x1 < 0) → (x1 ≤ 19 → ((12 : Int) < x1 → (S.2.2 0 11 = 0 → Qr (-1) S) ∧ (¬ (S.2.2 0 11 = 0) → zEnds 80 168 0 [(20, 0), (0, x1)] [] S (fun v1 S1 => Qr v1 S1) Qt)) ∧ (¬ ((12 : Int) < x1) → zEnds 80 167 0 [(20, 0), (0, x1)] [] S (fun v2 S2 => Qr v2 S2) Qt)) ∧ (¬ (x1 ≤ 19) → zEnds 80 166 10 [(20, 0), (0, x1)] [] S Qr Qt))) : zEnds 80 166 0 [(20, 0), (0, x1)] [] S Qr Qt := zwq_sound [10] 400 0 _ _ _ h
set_option maxRecDepth 20000 in
/-- DiskPool.look from 10 -/
theorem j_166_10 {x1 : Int} {S : zS} {Qr Qt : Int → zS → Prop} (h : (118 ≤ S.1) ∧ ((1 : Int) ≠ 0 ∧ Qt 1 S)) : zEnds 80 166 10 [(20, 0), (0, x1)] [] S Qr Qt := zwq_sound [10] 400 10 _ _ _ h
set_option maxRecDepth 20000 in
/-- DiskPool.lookAtRack from 0 -/
theorem j_167 {x1 : Int} {S : zS} {Qr Qt : Int → zS → Prop} (h : (x1 = 0 → (S.2.2 0 11 = 0 → Qr 0 S) ∧ (¬ (S.2.2 0 11 = 0) → Qr 1 S)) ∧ (¬ (x1 = 0) → (x1 = 1 → zEnds 80 20 0 [(22, 3)] [] S (fun v1 S1 => Qr v1 S1) Qt) ∧ (¬ (x1 = 1) → (x1 = 2 → zEnds 80 51 0 [(23, 12), (9, 0), (9, 0)] [] S (fun v2 S2 => Qr v2 S2) Qt) ∧ (¬ (x1 = 2) → (x1 = 3 → zEnds 80 52 0 [(23, 12), (9, 0), (9, 0)] [] S (fun v3 S3 => Qr v3 S3) Qt) ∧ (¬ (x1 = 3) → (x1 = 4 → zEnds 80 53 0 [(23, 12), (9, 0), (9, 0), (9, 0)] [] S (fun v4 S4 => Qr v4 S4) Qt) ∧ (¬ (x1 = 4) → (x1 = 5 → Qr (S.2.2 1 7) S) ∧ (¬ (x1 = 5) → (x1 = 6 → zEnds 80 63 0 [(24, 16)] [] S (fun v5 S5 => Qr v5 S5) Qt) ∧ (¬ (x1 = 6) → (x1 = 7 → Qr (S.2.2 1 5) S) ∧ (¬ (x1 = 7) → (x1 = 8 → zEnds 80 62 0 [(24, 16)] [] S (fun v6 S6 => Qr v6 S6) Qt) ∧ (¬ (x1 = 8) → (x1 = 9 → Qr (S.2.2 1 1) S) ∧ (¬ (x1 = 9) → (x1 = 10 → Qr (S.2.2 1 0) S) ∧ (¬ (x1 = 10) → (x1 = 11 → zEnds 80 19 0 [(22, 3), (9, 0), (9, 0)] [] S (fun v7 S7 => Qr v7 S7) Qt) ∧ (¬ (x1 = 11) → Qr (S.2.2 0 10) S))))))))))))) : zEnds 80 167 0 [(20, 0), (0, x1)] [] S Qr Qt := zwq_sound [] 400 0 _ _ _ h
set_option maxRecDepth 20000 in
/-- DiskPool.lookAtFiles from 0 -/
theorem j_168 {x1 : Int} {S : zS} {Qr Qt : Int → zS → Prop} (h : (x1 = 13 → zEnds 80 89 0 [(25, 18), (9, 0), (9, 0)] [] S (fun v1 S1 => Qr v1 S1) Qt) ∧ (¬ (x1 = 13) → (x1 = 14 → zEnds 80 112 0 [(26, 26), (9, 0), (9, 0)] [] S (fun v2 S2 => Qr v2 S2) Qt) ∧ (¬ (x1 = 14) → (x1 = 15 → zEnds 80 92 0 [(25, 18), (9, 0), (9, 0)] [] S (fun v3 S3 => Qr v3 S3) Qt) ∧ (¬ (x1 = 15) → (x1 = 16 → Qr (S.2.2 0 12) S) ∧ (¬ (x1 = 16) → (x1 = 17 → Qr (S.2.2 0 13) S) ∧ (¬ (x1 = 17) → (x1 = 18 → zEnds 80 138 0 [(28, 29)] [] S (fun v4 S4 => Qr v4 S4) Qt) ∧ (¬ (x1 = 18) → zEnds 80 94 0 [(25, 18), (23, 12), (9, 0), (9, 0)] [] S (fun v5 S5 => Qr v5 S5) Qt))))))) : zEnds 80 168 0 [(20, 0), (0, x1)] [] S Qr Qt := zwq_sound [] 400 0 _ _ _ h
set_option maxRecDepth 20000 in
/-- DiskPool.overflows from 0 -/
theorem j_175 {x1 : Int} {S : zS} {Qr Qt : Int → zS → Prop} (h : (x1 < 0 → zEnds 80 175 16 [(20, 0), (0, x1)] [] S Qr Qt) ∧ (¬ (x1 < 0) → zEnds 80 92 0 [(25, 18), (9, 0), (9, 0)] [] S (fun v1 S1 => ((24 : Int) < v1 → zEnds 80 97 0 [(25, 18), (9, 0)] [] S1 (fun v2 S2 => ((1 : Int) = 0 ∨ (1 : Int) = 1) ∧ Qr 1 S2) Qt) ∧ (¬ ((24 : Int) < v1) → zEnds 80 175 16 [(20, 0), (0, x1)] [] S1 Qr Qt)) Qt)) : zEnds 80 175 0 [(20, 0), (0, x1)] [] S Qr Qt := zwq_sound [16] 400 0 _ _ _ h
set_option maxRecDepth 20000 in
/-- DiskPool.overflows from 16 -/
theorem j_175_16 {x1 : Int} {S : zS} {Qr Qt : Int → zS → Prop} (h : ((0 : Int) = 0 ∨ (0 : Int) = 1) ∧ Qr 0 S) : zEnds 80 175 16 [(20, 0), (0, x1)] [] S Qr Qt := zwq_sound [16] 400 16 _ _ _ h
