theorem xM_ok52 : ∀ y, y < 4 → xMok (y + 52) = true := by decide +kernel
theorem xM_ok56 : ∀ y, y < 4 → xMok (y + 56) = true := by decide +kernel
theorem xM_ok60 : ∀ y, y < 4 → xMok (y + 60) = true := by decide +kernel
theorem xM_ok64 : ∀ y, y < 4 → xMok (y + 64) = true := by decide +kernel
theorem xM_ok68 : ∀ y, y < 4 → xMok (y + 68) = true := by decide +kernel
theorem xM_ok72 : ∀ y, y < 4 → xMok (y + 72) = true := by decide +kernel
theorem xM_ok76 : ∀ y, y < 4 → xMok (y + 76) = true := by decide +kernel
theorem xM_ok80 : ∀ y, y < 4 → xMok (y + 80) = true := by decide +kernel
theorem xM_ok84 : ∀ y, y < 4 → xMok (y + 84) = true := by decide +kernel
theorem xM_ok88 : ∀ y, y < 4 → xMok (y + 88) = true := by decide +kernel
theorem xM_ok92 : ∀ y, y < 4 → xMok (y + 92) = true := by decide +kernel
theorem xM_ok96 : ∀ y, y < 4 → xMok (y + 96) = true := by decide +kernel
theorem xM_ok100 : ∀ y, y < 4 → xMok (y + 100) = true := by decide +kernel
theorem xM_ok104 : ∀ y, y < 2 → xMok (y + 104) = true := by decide +kernel
theorem xM_ok (y : Nat) (hy : y < 106) : xMok y = true := by
  rcases Nat.lt_or_ge y 4 with h | h
  · have h1 := xM_ok0 (y - 0) (by omega)
    rwa [show y - 0 + 0 = y by omega] at h1
  rcases Nat.lt_or_ge y 8 with h | h
  · have h1 := xM_ok4 (y - 4) (by omega)
    rwa [show y - 4 + 4 = y by omega] at h1
  rcases Nat.lt_or_ge y 12 with h | h
  · have h1 := xM_ok8 (y - 8) (by omega)
    rwa [show y - 8 + 8 = y by omega] at h1
  rcases Nat.lt_or_ge y 16 with h | h
  · have h1 := xM_ok12 (y - 12) (by omega)
    rwa [show y - 12 + 12 = y by omega] at h1
  rcases Nat.lt_or_ge y 20 with h | h
  · have h1 := xM_ok16 (y - 16) (by omega)
    rwa [show y - 16 + 16 = y by omega] at h1
  rcases Nat.lt_or_ge y 24 with h | h
  · have h1 := xM_ok20 (y - 20) (by omega)
    rwa [show y - 20 + 20 = y by omega] at h1
  rcases Nat.lt_or_ge y 28 with h | h
  · have h1 := xM_ok24 (y - 24) (by omega)
    rwa [show y - 24 + 24 = y by omega] at h1
  rcases Nat.lt_or_ge y 32 with h | h
  · have h1 := xM_ok28 (y - 28) (by omega)
    rwa [show y - 28 + 28 = y by omega] at h1
  rcases Nat.lt_or_ge y 36 with h | h
  · have h1 := xM_ok32 (y - 32) (by omega)
    rwa [show y - 32 + 32 = y by omega] at h1
  rcases Nat.lt_or_ge y 40 with h | h
  · have h1 := xM_ok36 (y - 36) (by omega)
    rwa [show y - 36 + 36 = y by omega] at h1
  rcases Nat.lt_or_ge y 44 with h | h
  · have h1 := xM_ok40 (y - 40) (by omega)
    rwa [show y - 40 + 40 = y by omega] at h1
  rcases Nat.lt_or_ge y 48 with h | h
  · have h1 := xM_ok44 (y - 44) (by omega)
    rwa [show y - 44 + 44 = y by omega] at h1
  rcases Nat.lt_or_ge y 52 with h | h
  · have h1 := xM_ok48 (y - 48) (by omega)
    rwa [show y - 48 + 48 = y by omega] at h1
  rcases Nat.lt_or_ge y 56 with h | h
  · have h1 := xM_ok52 (y - 52) (by omega)
    rwa [show y - 52 + 52 = y by omega] at h1
  rcases Nat.lt_or_ge y 60 with h | h
  · have h1 := xM_ok56 (y - 56) (by omega)
    rwa [show y - 56 + 56 = y by omega] at h1
  rcases Nat.lt_or_ge y 64 with h | h
  · have h1 := xM_ok60 (y - 60) (by omega)
    rwa [show y - 60 + 60 = y by omega] at h1
  rcases Nat.lt_or_ge y 68 with h | h
  · have h1 := xM_ok64 (y - 64) (by omega)
    rwa [show y - 64 + 64 = y by omega] at h1
  rcases Nat.lt_or_ge y 72 with h | h
  · have h1 := xM_ok68 (y - 68) (by omega)
    rwa [show y - 68 + 68 = y by omega] at h1
  rcases Nat.lt_or_ge y 76 with h | h
  · have h1 := xM_ok72 (y - 72) (by omega)
    rwa [show y - 72 + 72 = y by omega] at h1
  rcases Nat.lt_or_ge y 80 with h | h
  · have h1 := xM_ok76 (y - 76) (by omega)
    rwa [show y - 76 + 76 = y by omega] at h1
  rcases Nat.lt_or_ge y 84 with h | h
  · have h1 := xM_ok80 (y - 80) (by omega)
    rwa [show y - 80 + 80 = y by omega] at h1
  rcases Nat.lt_or_ge y 88 with h | h
  · have h1 := xM_ok84 (y - 84) (by omega)
    rwa [show y - 84 + 84 = y by omega] at h1
  rcases Nat.lt_or_ge y 92 with h | h
  · have h1 := xM_ok88 (y - 88) (by omega)
    rwa [show y - 88 + 88 = y by omega] at h1
  rcases Nat.lt_or_ge y 96 with h | h
  · have h1 := xM_ok92 (y - 92) (by omega)
    rwa [show y - 92 + 92 = y by omega] at h1
  rcases Nat.lt_or_ge y 100 with h | h
  · have h1 := xM_ok96 (y - 96) (by omega)
    rwa [show y - 96 + 96 = y by omega] at h1
  rcases Nat.lt_or_ge y 104 with h | h
  · have h1 := xM_ok100 (y - 100) (by omega)
    rwa [show y - 100 + 100 = y by omega] at h1
  rcases Nat.lt_or_ge y 106 with h | h
  · have h1 := xM_ok104 (y - 104) (by omega)
    rwa [show y - 104 + 104 = y by omega] at h1
  omega
