/-! the words that every method is given: the good ones of the tables; where they stand, by a program -/
def aWS : List Cond := lw_tbl.filter goodWord
theorem aWS_in : ∀ w ∈ aWS, w ∈ lw_tbl := fun _ h => (List.mem_filter.mp h).1
theorem aWS_goodIn {big : List Cond} (hb : ∀ w ∈ aWS, w ∈ big) {ws : List Cond} (hw : ∀ w ∈ ws, w ∈ aWS) : GoodIn big ws := fun w h => ⟨hb w (hw w h), good_of_word (List.mem_filter.mp (hw w h)).2⟩
theorem aW_t (i : Nat) {w : Cond} (h : tables_1[i]? = some w) (g : goodWord w = true) : w ∈ aWS := List.mem_filter.mpr ⟨List.mem_append_right _ (List.mem_of_getElem? h), g⟩
theorem aW_s (i : Nat) {w : Cond} (h : (k2_sels lw_privs)[i]? = some w) (g : goodWord w = true) : w ∈ aWS := List.mem_filter.mpr ⟨List.mem_append_left _ (List.mem_of_getElem? h), g⟩
theorem inWX1 : ∀ w ∈ wsX10, w ∈ aWS := by
  have h : ∀ k, k < 6 → u_lay RX1 TX1 k ∈ aWS := by
    intro k hk
    match k, hk with
    | 0, _ => exact aW_t 128 (by decide +kernel) (by decide +kernel)
    | 1, _ => exact aW_t 130 (by decide +kernel) (by decide +kernel)
    | 2, _ => exact aW_t 132 (by decide +kernel) (by decide +kernel)
    | 3, _ => exact aW_t 134 (by decide +kernel) (by decide +kernel)
    | 4, _ => exact aW_t 136 (by decide +kernel) (by decide +kernel)
    | 5, _ => exact aW_t 138 (by decide +kernel) (by decide +kernel)
  intro w hw
  obtain ⟨k, hk, rfl⟩ := List.mem_map.mp hw
  exact h k (List.mem_range.mp hk)
theorem inWX2 : ∀ w ∈ wsX20, w ∈ aWS := by
  have h : ∀ k, k < 1 → u_lay RX2 TX2 k ∈ aWS := by
    intro k hk
    match k, hk with
    | 0, _ => exact aW_t 89 (by decide +kernel) (by decide +kernel)
  intro w hw
  obtain ⟨k, hk, rfl⟩ := List.mem_map.mp hw
  exact h k (List.mem_range.mp hk)
theorem inWX3 : ∀ w ∈ wsX30, w ∈ aWS := by
  have h : ∀ k, k < 3 → u_lay RX3 TX3 k ∈ aWS := by
    intro k hk
    match k, hk with
    | 0, _ => exact aW_t 294 (by decide +kernel) (by decide +kernel)
    | 1, _ => exact aW_t 296 (by decide +kernel) (by decide +kernel)
    | 2, _ => exact aW_t 298 (by decide +kernel) (by decide +kernel)
  intro w hw
  obtain ⟨k, hk, rfl⟩ := List.mem_map.mp hw
  exact h k (List.mem_range.mp hk)
theorem inWX4 : ∀ w ∈ wsX40, w ∈ aWS := by
  have h : ∀ k, k < 7 → u_lay RX4 TX4 k ∈ aWS := by
    intro k hk
    match k, hk with
    | 0, _ => exact aW_t 318 (by decide +kernel) (by decide +kernel)
    | 1, _ => exact aW_t 320 (by decide +kernel) (by decide +kernel)
    | 2, _ => exact aW_t 322 (by decide +kernel) (by decide +kernel)
    | 3, _ => exact aW_t 324 (by decide +kernel) (by decide +kernel)
    | 4, _ => exact aW_t 326 (by decide +kernel) (by decide +kernel)
    | 5, _ => exact aW_t 328 (by decide +kernel) (by decide +kernel)
    | 6, _ => exact aW_t 330 (by decide +kernel) (by decide +kernel)
  intro w hw
  obtain ⟨k, hk, rfl⟩ := List.mem_map.mp hw
  exact h k (List.mem_range.mp hk)
theorem inWX5 : ∀ w ∈ wsX50, w ∈ aWS := by
  have h : ∀ k, k < 6 → u_lay RX5 TX5 k ∈ aWS := by
    intro k hk
    match k, hk with
    | 0, _ => exact aW_t 267 (by decide +kernel) (by decide +kernel)
    | 1, _ => exact aW_t 269 (by decide +kernel) (by decide +kernel)
    | 2, _ => exact aW_t 271 (by decide +kernel) (by decide +kernel)
    | 3, _ => exact aW_t 273 (by decide +kernel) (by decide +kernel)
    | 4, _ => exact aW_t 275 (by decide +kernel) (by decide +kernel)
    | 5, _ => exact aW_t 277 (by decide +kernel) (by decide +kernel)
  intro w hw
  obtain ⟨k, hk, rfl⟩ := List.mem_map.mp hw
  exact h k (List.mem_range.mp hk)
theorem inWX6 : ∀ w ∈ wsX60, w ∈ aWS := by
  have h : ∀ k, k < 4 → u_lay RX6 TX6 k ∈ aWS := by
    intro k hk
    match k, hk with
    | 0, _ => exact aW_t 99 (by decide +kernel) (by decide +kernel)
    | 1, _ => exact aW_t 101 (by decide +kernel) (by decide +kernel)
    | 2, _ => exact aW_t 103 (by decide +kernel) (by decide +kernel)
    | 3, _ => exact aW_t 105 (by decide +kernel) (by decide +kernel)
  intro w hw
  obtain ⟨k, hk, rfl⟩ := List.mem_map.mp hw
  exact h k (List.mem_range.mp hk)
theorem inWX7 : ∀ w ∈ wsX70, w ∈ aWS := by
  have h : ∀ k, k < 16 → u_lay RX7 TX7 k ∈ aWS := by
    intro k hk
    match k, hk with
    | 0, _ => exact aW_t 183 (by decide +kernel) (by decide +kernel)
    | 1, _ => exact aW_t 185 (by decide +kernel) (by decide +kernel)
    | 2, _ => exact aW_t 187 (by decide +kernel) (by decide +kernel)
    | 3, _ => exact aW_t 189 (by decide +kernel) (by decide +kernel)
    | 4, _ => exact aW_t 191 (by decide +kernel) (by decide +kernel)
    | 5, _ => exact aW_t 193 (by decide +kernel) (by decide +kernel)
    | 6, _ => exact aW_t 195 (by decide +kernel) (by decide +kernel)
    | 7, _ => exact aW_t 197 (by decide +kernel) (by decide +kernel)
    | 8, _ => exact aW_t 199 (by decide +kernel) (by decide +kernel)
    | 9, _ => exact aW_t 201 (by decide +kernel) (by decide +kernel)
    | 10, _ => exact aW_t 203 (by decide +kernel) (by decide +kernel)
    | 11, _ => exact aW_t 205 (by decide +kernel) (by decide +kernel)
    | 12, _ => exact aW_t 207 (by decide +kernel) (by decide +kernel)
    | 13, _ => exact aW_t 209 (by decide +kernel) (by decide +kernel)
    | 14, _ => exact aW_t 211 (by decide +kernel) (by decide +kernel)
    | 15, _ => exact aW_t 213 (by decide +kernel) (by decide +kernel)
    | k + 16, hk => exact absurd hk (by omega)
  intro w hw
  obtain ⟨k, hk, rfl⟩ := List.mem_map.mp hw
  exact h k (List.mem_range.mp hk)
theorem inWX8 : ∀ w ∈ wsX80, w ∈ aWS := by
  have h : ∀ k, k < 1 → u_lay RX8 TX8 k ∈ aWS := by
    intro k hk
    match k, hk with
    | 0, _ => exact aW_t 340 (by decide +kernel) (by decide +kernel)
  intro w hw
  obtain ⟨k, hk, rfl⟩ := List.mem_map.mp hw
  exact h k (List.mem_range.mp hk)
theorem inWX10 : ∀ w ∈ wsX100, w ∈ aWS := by
  have h : ∀ k, k < 7 → u_lay RX10 TX10 k ∈ aWS := by
    intro k hk
    match k, hk with
    | 0, _ => exact aW_t 242 (by decide +kernel) (by decide +kernel)
    | 1, _ => exact aW_t 244 (by decide +kernel) (by decide +kernel)
    | 2, _ => exact aW_t 246 (by decide +kernel) (by decide +kernel)
    | 3, _ => exact aW_t 248 (by decide +kernel) (by decide +kernel)
    | 4, _ => exact aW_t 250 (by decide +kernel) (by decide +kernel)
    | 5, _ => exact aW_t 252 (by decide +kernel) (by decide +kernel)
    | 6, _ => exact aW_t 254 (by decide +kernel) (by decide +kernel)
  intro w hw
  obtain ⟨k, hk, rfl⟩ := List.mem_map.mp hw
  exact h k (List.mem_range.mp hk)
theorem inWX11 : ∀ w ∈ wsX110, w ∈ aWS := by
  have h : ∀ k, k < 8 → u_lay RX11 TX11 k ∈ aWS := by
    intro k hk
    match k, hk with
    | 0, _ => exact aW_t 58 (by decide +kernel) (by decide +kernel)
    | 1, _ => exact aW_t 60 (by decide +kernel) (by decide +kernel)
    | 2, _ => exact aW_t 62 (by decide +kernel) (by decide +kernel)
    | 3, _ => exact aW_t 64 (by decide +kernel) (by decide +kernel)
    | 4, _ => exact aW_t 66 (by decide +kernel) (by decide +kernel)
    | 5, _ => exact aW_t 68 (by decide +kernel) (by decide +kernel)
    | 6, _ => exact aW_t 70 (by decide +kernel) (by decide +kernel)
    | 7, _ => exact aW_t 72 (by decide +kernel) (by decide +kernel)
  intro w hw
  obtain ⟨k, hk, rfl⟩ := List.mem_map.mp hw
  exact h k (List.mem_range.mp hk)
theorem inWX12 : ∀ w ∈ wsX120, w ∈ aWS := by
  have h : ∀ k, k < 12 → u_lay RX12 TX12 k ∈ aWS := by
    intro k hk
    match k, hk with
    | 0, _ => exact aW_t 366 (by decide +kernel) (by decide +kernel)
    | 1, _ => exact aW_t 368 (by decide +kernel) (by decide +kernel)
    | 2, _ => exact aW_t 370 (by decide +kernel) (by decide +kernel)
    | 3, _ => exact aW_t 372 (by decide +kernel) (by decide +kernel)
    | 4, _ => exact aW_t 374 (by decide +kernel) (by decide +kernel)
    | 5, _ => exact aW_t 376 (by decide +kernel) (by decide +kernel)
    | 6, _ => exact aW_t 378 (by decide +kernel) (by decide +kernel)
    | 7, _ => exact aW_t 380 (by decide +kernel) (by decide +kernel)
    | 8, _ => exact aW_t 382 (by decide +kernel) (by decide +kernel)
    | 9, _ => exact aW_t 384 (by decide +kernel) (by decide +kernel)
    | 10, _ => exact aW_t 386 (by decide +kernel) (by decide +kernel)
    | 11, _ => exact aW_t 388 (by decide +kernel) (by decide +kernel)
  intro w hw
  obtain ⟨k, hk, rfl⟩ := List.mem_map.mp hw
  exact h k (List.mem_range.mp hk)
theorem inWX13 : ∀ w ∈ wsX130, w ∈ aWS := by
  have h : ∀ k, k < 63 → u_lay RX13 TX13 k ∈ aWS := by
    intro k hk
    match k, hk with
    | 0, _ => exact aW_t 1319 (by decide +kernel) (by decide +kernel)
    | 1, _ => exact aW_t 1321 (by decide +kernel) (by decide +kernel)
    | 2, _ => exact aW_t 1323 (by decide +kernel) (by decide +kernel)
    | 3, _ => exact aW_t 1325 (by decide +kernel) (by decide +kernel)
    | 4, _ => exact aW_t 1327 (by decide +kernel) (by decide +kernel)
    | 5, _ => exact aW_t 1329 (by decide +kernel) (by decide +kernel)
    | 6, _ => exact aW_t 1331 (by decide +kernel) (by decide +kernel)
    | 7, _ => exact aW_t 1333 (by decide +kernel) (by decide +kernel)
    | 8, _ => exact aW_t 1335 (by decide +kernel) (by decide +kernel)
    | 9, _ => exact aW_t 1337 (by decide +kernel) (by decide +kernel)
    | 10, _ => exact aW_t 1339 (by decide +kernel) (by decide +kernel)
    | 11, _ => exact aW_t 1341 (by decide +kernel) (by decide +kernel)
    | 12, _ => exact aW_t 1343 (by decide +kernel) (by decide +kernel)
    | 13, _ => exact aW_t 1345 (by decide +kernel) (by decide +kernel)
    | 14, _ => exact aW_t 1347 (by decide +kernel) (by decide +kernel)
    | 15, _ => exact aW_t 1349 (by decide +kernel) (by decide +kernel)
    | 16, _ => exact aW_t 1351 (by decide +kernel) (by decide +kernel)
    | 17, _ => exact aW_t 1353 (by decide +kernel) (by decide +kernel)
    | 18, _ => exact aW_t 1355 (by decide +kernel) (by decide +kernel)
    | 19, _ => exact aW_t 1357 (by decide +kernel) (by decide +kernel)
    | 20, _ => exact aW_t 1359 (by decide +kernel) (by decide +kernel)
    | 21, _ => exact aW_t 1361 (by decide +kernel) (by decide +kernel)
    | 22, _ => exact aW_t 1363 (by decide +kernel) (by decide +kernel)
    | 23, _ => exact aW_t 1365 (by decide +kernel) (by decide +kernel)
    | 24, _ => exact aW_t 1367 (by decide +kernel) (by decide +kernel)
    | 25, _ => exact aW_t 1369 (by decide +kernel) (by decide +kernel)
    | 26, _ => exact aW_t 1371 (by decide +kernel) (by decide +kernel)
    | 27, _ => exact aW_t 1373 (by decide +kernel) (by decide +kernel)
    | 28, _ => exact aW_t 1375 (by decide +kernel) (by decide +kernel)
    | 29, _ => exact aW_t 1377 (by decide +kernel) (by decide +kernel)
    | 30, _ => exact aW_t 1379 (by decide +kernel) (by decide +kernel)
    | 31, _ => exact aW_t 1381 (by decide +kernel) (by decide +kernel)
    | 32, _ => exact aW_t 1383 (by decide +kernel) (by decide +kernel)
    | 33, _ => exact aW_t 1385 (by decide +kernel) (by decide +kernel)
    | 34, _ => exact aW_t 1387 (by decide +kernel) (by decide +kernel)
    | 35, _ => exact aW_t 1389 (by decide +kernel) (by decide +kernel)
    | 36, _ => exact aW_t 1391 (by decide +kernel) (by decide +kernel)
    | 37, _ => exact aW_t 1393 (by decide +kernel) (by decide +kernel)
    | 38, _ => exact aW_t 1395 (by decide +kernel) (by decide +kernel)
    | 39, _ => exact aW_t 1397 (by decide +kernel) (by decide +kernel)
    | 40, _ => exact aW_t 1399 (by decide +kernel) (by decide +kernel)
    | 41, _ => exact aW_t 1401 (by decide +kernel) (by decide +kernel)
    | 42, _ => exact aW_t 1403 (by decide +kernel) (by decide +kernel)
    | 43, _ => exact aW_t 1405 (by decide +kernel) (by decide +kernel)
    | 44, _ => exact aW_t 1407 (by decide +kernel) (by decide +kernel)
    | 45, _ => exact aW_t 1409 (by decide +kernel) (by decide +kernel)
    | 46, _ => exact aW_t 1411 (by decide +kernel) (by decide +kernel)
    | 47, _ => exact aW_t 1413 (by decide +kernel) (by decide +kernel)
    | 48, _ => exact aW_t 1415 (by decide +kernel) (by decide +kernel)
    | 49, _ => exact aW_t 1417 (by decide +kernel) (by decide +kernel)
    | 50, _ => exact aW_t 1419 (by decide +kernel) (by decide +kernel)
    | 51, _ => exact aW_t 1421 (by decide +kernel) (by decide +kernel)
    | 52, _ => exact aW_t 1423 (by decide +kernel) (by decide +kernel)
    | 53, _ => exact aW_t 1425 (by decide +kernel) (by decide +kernel)
    | 54, _ => exact aW_t 1427 (by decide +kernel) (by decide +kernel)
    | 55, _ => exact aW_t 1429 (by decide +kernel) (by decide +kernel)
    | 56, _ => exact aW_t 1431 (by decide +kernel) (by decide +kernel)
    | 57, _ => exact aW_t 1433 (by decide +kernel) (by decide +kernel)
    | 58, _ => exact aW_t 1435 (by decide +kernel) (by decide +kernel)
    | 59, _ => exact aW_t 1437 (by decide +kernel) (by decide +kernel)
    | 60, _ => exact aW_t 1439 (by decide +kernel) (by decide +kernel)
    | 61, _ => exact aW_t 1441 (by decide +kernel) (by decide +kernel)
    | 62, _ => exact aW_t 1443 (by decide +kernel) (by decide +kernel)
    | k + 63, hk => exact absurd hk (by omega)
  intro w hw
  obtain ⟨k, hk, rfl⟩ := List.mem_map.mp hw
  exact h k (List.mem_range.mp hk)
