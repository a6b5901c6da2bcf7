/-! the law's loop, by program -/
def wpL_law_951 (N : Nat) (xs : Nat → Int32) (post : Int32 → Mm → Ml → Prop) (K18 : Mm → Ml → Int32 → Prop) (M : Mm) (L : Ml) (v3 : Int32) : Prop :=
  ∀ a_951 : Int32, a_951 = v3 + (7 : Int32) → (K18 M L a_951)
def wpL_law_18 (N : Nat) (xs : Nat → Int32) (post : Int32 → Mm → Ml → Prop) (K18 : Mm → Ml → Int32 → Prop) (M : Mm) (L : Ml) (v3 : Int32) : Prop :=
  ((((Int32.ofNat N)) - (7 : Int32)) < v3 → post (1 : Int32) M L) ∧ (¬ ((((Int32.ofNat N)) - (7 : Int32)) < v3) → vp_in v3 N ∧ (∀ a_33 : Int32, a_33 = (xs v3.toNatClampNeg) &&& (31 : Int32) → ((a_33 = (0 : Int32) → vp_in (v3 + (1 : Int32)) N ∧ (vp_in (v3 + (2 : Int32)) N ∧ (vp_in (v3 + (3 : Int32)) N ∧ (vp_in (v3 + (4 : Int32)) N ∧ (vp_in (v3 + (5 : Int32)) N ∧ (wpX8_flake (xs (v3 + (1 : Int32)).toNatClampNeg) (xs (v3 + (2 : Int32)).toNatClampNeg) (xs (v3 + (3 : Int32)).toNatClampNeg) (xs (v3 + (4 : Int32)).toNatClampNeg) (xs (v3 + (5 : Int32)).toNatClampNeg) M L (fun r_182 M_182 L_182 => vp_in (v3 + (1 : Int32)) N ∧ (vp_in (v3 + (2 : Int32)) N ∧ (vp_in (v3 + (3 : Int32)) N ∧ (vp_in (v3 + (4 : Int32)) N ∧ (vp_in (v3 + (5 : Int32)) N ∧ (wpX9_flake (xs (v3 + (1 : Int32)).toNatClampNeg) (xs (v3 + (2 : Int32)).toNatClampNeg) (xs (v3 + (3 : Int32)).toNatClampNeg) (xs (v3 + (4 : Int32)).toNatClampNeg) (xs (v3 + (5 : Int32)).toNatClampNeg) M_182 L_182 (fun r_211 M_211 L_211 => (r_182 = r_211 → wpL_law_951 N xs post K18 M_211 L_211 v3) ∧ (¬ (r_182 = r_211) → post (0 : Int32) M_211 L_211)))))))))))))) ∧ (¬ (a_33 = (0 : Int32)) → (a_33 = (1 : Int32) → vp_in (v3 + (1 : Int32)) N ∧ (wpX8_melt (xs (v3 + (1 : Int32)).toNatClampNeg) M L (fun r_225 M_225 L_225 => vp_in (v3 + (1 : Int32)) N ∧ (wpX9_melt (xs (v3 + (1 : Int32)).toNatClampNeg) M_225 L_225 (fun r_234 M_234 L_234 => (r_225 = r_234 → wpL_law_951 N xs post K18 M_234 L_234 v3) ∧ (¬ (r_225 = r_234) → post (0 : Int32) M_234 L_234)))))) ∧ (¬ (a_33 = (1 : Int32)) → (a_33 = (2 : Int32) → vp_in (v3 + (1 : Int32)) N ∧ (vp_in (v3 + (2 : Int32)) N ∧ (wpX8_stand (xs (v3 + (1 : Int32)).toNatClampNeg) (xs (v3 + (2 : Int32)).toNatClampNeg) M L (fun r_253 M_253 L_253 => vp_in (v3 + (1 : Int32)) N ∧ (vp_in (v3 + (2 : Int32)) N ∧ (wpX9_stand (xs (v3 + (1 : Int32)).toNatClampNeg) (xs (v3 + (2 : Int32)).toNatClampNeg) M_253 L_253 (fun r_267 M_267 L_267 => (r_253 = r_267 → wpL_law_951 N xs post K18 M_267 L_267 v3) ∧ (¬ (r_253 = r_267) → post (0 : Int32) M_267 L_267)))))))) ∧ (¬ (a_33 = (2 : Int32)) → (a_33 = (3 : Int32) → vp_in (v3 + (1 : Int32)) N ∧ (vp_in (v3 + (2 : Int32)) N ∧ (wpX8_air (xs (v3 + (1 : Int32)).toNatClampNeg) (xs (v3 + (2 : Int32)).toNatClampNeg) M L (fun r_286 M_286 L_286 => vp_in (v3 + (1 : Int32)) N ∧ (vp_in (v3 + (2 : Int32)) N ∧ (wpX9_air (xs (v3 + (1 : Int32)).toNatClampNeg) (xs (v3 + (2 : Int32)).toNatClampNeg) M_286 L_286 (fun r_300 M_300 L_300 => (r_286 = r_300 → wpL_law_951 N xs post K18 M_300 L_300 v3) ∧ (¬ (r_286 = r_300) → post (0 : Int32) M_300 L_300)))))))) ∧ (¬ (a_33 = (3 : Int32)) → (a_33 = (4 : Int32) → vp_in (v3 + (1 : Int32)) N ∧ (wpX8_say (xs (v3 + (1 : Int32)).toNatClampNeg) M L (fun r_314 M_314 L_314 => vp_in (v3 + (1 : Int32)) N ∧ (wpX9_say (xs (v3 + (1 : Int32)).toNatClampNeg) M_314 L_314 (fun r_323 M_323 L_323 => (r_314 = r_323 → wpL_law_951 N xs post K18 M_323 L_323 v3) ∧ (¬ (r_314 = r_323) → post (0 : Int32) M_323 L_323)))))) ∧ (¬ (a_33 = (4 : Int32)) → (a_33 = (5 : Int32) → wpX8_wipe M L (fun r_332 M_332 L_332 => wpX9_wipe M_332 L_332 (fun r_336 M_336 L_336 => (r_332 = r_336 → wpL_law_951 N xs post K18 M_336 L_336 v3) ∧ (¬ (r_332 = r_336) → post (0 : Int32) M_336 L_336)))) ∧ (¬ (a_33 = (5 : Int32)) → (a_33 = (6 : Int32) → wpX8_fault M L (fun r_345 M_345 L_345 => wpX9_fault M_345 L_345 (fun r_349 M_349 L_349 => (r_345 = r_349 → wpL_law_951 N xs post K18 M_349 L_349 v3) ∧ (¬ (r_345 = r_349) → post (0 : Int32) M_349 L_349)))) ∧ (¬ (a_33 = (6 : Int32)) → (a_33 = (7 : Int32) → vp_in (v3 + (1 : Int32)) N ∧ (wpX8_judge (xs (v3 + (1 : Int32)).toNatClampNeg) M L (fun r_363 M_363 L_363 => vp_in (v3 + (1 : Int32)) N ∧ (wpX9_judge (xs (v3 + (1 : Int32)).toNatClampNeg) M_363 L_363 (fun r_372 M_372 L_372 => (r_363 = r_372 → wpL_law_951 N xs post K18 M_372 L_372 v3) ∧ (¬ (r_363 = r_372) → post (0 : Int32) M_372 L_372)))))) ∧ (¬ (a_33 = (7 : Int32)) → (a_33 = (8 : Int32) → vp_in (v3 + (1 : Int32)) N ∧ (vp_in (v3 + (2 : Int32)) N ∧ (wpX8_behind (xs (v3 + (1 : Int32)).toNatClampNeg) (xs (v3 + (2 : Int32)).toNatClampNeg) M L (fun r_391 M_391 L_391 => vp_in (v3 + (1 : Int32)) N ∧ (vp_in (v3 + (2 : Int32)) N ∧ (wpX9_behind (xs (v3 + (1 : Int32)).toNatClampNeg) (xs (v3 + (2 : Int32)).toNatClampNeg) M_391 L_391 (fun r_405 M_405 L_405 => (r_391 = r_405 → wpL_law_951 N xs post K18 M_405 L_405 v3) ∧ (¬ (r_391 = r_405) → post (0 : Int32) M_405 L_405)))))))) ∧ (¬ (a_33 = (8 : Int32)) → (a_33 = (9 : Int32) → vp_in (v3 + (1 : Int32)) N ∧ (vp_in (v3 + (2 : Int32)) N ∧ (wpX8_stands (xs (v3 + (1 : Int32)).toNatClampNeg) (xs (v3 + (2 : Int32)).toNatClampNeg) M L (fun r_424 M_424 L_424 => vp_in (v3 + (1 : Int32)) N ∧ (vp_in (v3 + (2 : Int32)) N ∧ (wpX9_stands (xs (v3 + (1 : Int32)).toNatClampNeg) (xs (v3 + (2 : Int32)).toNatClampNeg) M_424 L_424 (fun r_438 M_438 L_438 => (r_424 = r_438 → wpL_law_951 N xs post K18 M_438 L_438 v3) ∧ (¬ (r_424 = r_438) → post (0 : Int32) M_438 L_438)))))))) ∧ (¬ (a_33 = (9 : Int32)) → (a_33 = (10 : Int32) → vp_in (v3 + (1 : Int32)) N ∧ (wpX8_posted (xs (v3 + (1 : Int32)).toNatClampNeg) M L (fun r_452 M_452 L_452 => vp_in (v3 + (1 : Int32)) N ∧ (wpX9_posted (xs (v3 + (1 : Int32)).toNatClampNeg) M_452 L_452 (fun r_461 M_461 L_461 => (r_452 = r_461 → wpL_law_951 N xs post K18 M_461 L_461 v3) ∧ (¬ (r_452 = r_461) → post (0 : Int32) M_461 L_461)))))) ∧ (¬ (a_33 = (10 : Int32)) → (a_33 = (11 : Int32) → wpX8_done M L (fun r_470 M_470 L_470 => wpX9_done M_470 L_470 (fun r_474 M_474 L_474 => (r_470 = r_474 → wpL_law_951 N xs post K18 M_474 L_474 v3) ∧ (¬ (r_470 = r_474) → post (0 : Int32) M_474 L_474)))) ∧ (¬ (a_33 = (11 : Int32)) → (a_33 = (12 : Int32) → vp_in (v3 + (1 : Int32)) N ∧ (wpX8_says (xs (v3 + (1 : Int32)).toNatClampNeg) M L (fun r_488 M_488 L_488 => vp_in (v3 + (1 : Int32)) N ∧ (wpX9_says (xs (v3 + (1 : Int32)).toNatClampNeg) M_488 L_488 (fun r_497 M_497 L_497 => (r_488 = r_497 → wpL_law_951 N xs post K18 M_497 L_497 v3) ∧ (¬ (r_488 = r_497) → post (0 : Int32) M_497 L_497)))))) ∧ (¬ (a_33 = (12 : Int32)) → (a_33 = (13 : Int32) → vp_in (v3 + (1 : Int32)) N ∧ (vp_in (v3 + (2 : Int32)) N ∧ (vp_in (v3 + (3 : Int32)) N ∧ (vp_in (v3 + (4 : Int32)) N ∧ (wpX8_grew (xs (v3 + (1 : Int32)).toNatClampNeg) (xs (v3 + (2 : Int32)).toNatClampNeg) (xs (v3 + (3 : Int32)).toNatClampNeg) (xs (v3 + (4 : Int32)).toNatClampNeg) M L (fun r_526 M_526 L_526 => vp_in (v3 + (1 : Int32)) N ∧ (vp_in (v3 + (2 : Int32)) N ∧ (vp_in (v3 + (3 : Int32)) N ∧ (vp_in (v3 + (4 : Int32)) N ∧ (wpX9_grew (xs (v3 + (1 : Int32)).toNatClampNeg) (xs (v3 + (2 : Int32)).toNatClampNeg) (xs (v3 + (3 : Int32)).toNatClampNeg) (xs (v3 + (4 : Int32)).toNatClampNeg) M_526 L_526 (fun r_550 M_550 L_550 => ((lg_cmp r_526 r_550) = 0 → wpL_law_951 N xs post K18 M_550 L_550 v3) ∧ (¬ ((lg_cmp r_526 r_550) = 0) → post (0 : Int32) M_550 L_550)))))))))))) ∧ (¬ (a_33 = (13 : Int32)) → (a_33 = (14 : Int32) → vp_in (v3 + (1 : Int32)) N ∧ (vp_in (v3 + (2 : Int32)) N ∧ (wpX8_soon (xs (v3 + (1 : Int32)).toNatClampNeg) (xs (v3 + (2 : Int32)).toNatClampNeg) M L (fun r_570 M_570 L_570 => vp_in (v3 + (1 : Int32)) N ∧ (vp_in (v3 + (2 : Int32)) N ∧ (wpX9_soon (xs (v3 + (1 : Int32)).toNatClampNeg) (xs (v3 + (2 : Int32)).toNatClampNeg) M_570 L_570 (fun r_584 M_584 L_584 => (r_570 = r_584 → wpL_law_951 N xs post K18 M_584 L_584 v3) ∧ (¬ (r_570 = r_584) → post (0 : Int32) M_584 L_584)))))))) ∧ (¬ (a_33 = (14 : Int32)) → (a_33 = (15 : Int32) → vp_in (v3 + (1 : Int32)) N ∧ (wpX8_most (xs (v3 + (1 : Int32)).toNatClampNeg) M L (fun r_598 M_598 L_598 => vp_in (v3 + (1 : Int32)) N ∧ (wpX9_most (xs (v3 + (1 : Int32)).toNatClampNeg) M_598 L_598 (fun r_607 M_607 L_607 => (r_598 = r_607 → wpL_law_951 N xs post K18 M_607 L_607 v3) ∧ (¬ (r_598 = r_607) → post (0 : Int32) M_607 L_607)))))) ∧ (¬ (a_33 = (15 : Int32)) → (a_33 = (16 : Int32) → vp_in (v3 + (1 : Int32)) N ∧ (wpX8_patch (xs (v3 + (1 : Int32)).toNatClampNeg) M L (fun r_621 M_621 L_621 => vp_in (v3 + (1 : Int32)) N ∧ (wpX9_patch (xs (v3 + (1 : Int32)).toNatClampNeg) M_621 L_621 (fun r_630 M_630 L_630 => (r_621 = r_630 → wpL_law_951 N xs post K18 M_630 L_630 v3) ∧ (¬ (r_621 = r_630) → post (0 : Int32) M_630 L_630)))))) ∧ (¬ (a_33 = (16 : Int32)) → (a_33 = (17 : Int32) → vp_in (v3 + (1 : Int32)) N ∧ (vp_in (v3 + (2 : Int32)) N ∧ (wpX8_seen (xs (v3 + (1 : Int32)).toNatClampNeg) (xs (v3 + (2 : Int32)).toNatClampNeg) M L (fun r_649 M_649 L_649 => vp_in (v3 + (1 : Int32)) N ∧ (vp_in (v3 + (2 : Int32)) N ∧ (wpX9_seen (xs (v3 + (1 : Int32)).toNatClampNeg) (xs (v3 + (2 : Int32)).toNatClampNeg) M_649 L_649 (fun r_663 M_663 L_663 => (r_649 = r_663 → wpL_law_951 N xs post K18 M_663 L_663 v3) ∧ (¬ (r_649 = r_663) → post (0 : Int32) M_663 L_663)))))))) ∧ (¬ (a_33 = (17 : Int32)) → (a_33 = (18 : Int32) → wpX8_forget M L (fun r_672 M_672 L_672 => wpX9_forget M_672 L_672 (fun r_676 M_676 L_676 => (r_672 = r_676 → wpL_law_951 N xs post K18 M_676 L_676 v3) ∧ (¬ (r_672 = r_676) → post (0 : Int32) M_676 L_676)))) ∧ (¬ (a_33 = (18 : Int32)) → (a_33 = (19 : Int32) → vp_in (v3 + (1 : Int32)) N ∧ (wpX8_laws (xs (v3 + (1 : Int32)).toNatClampNeg) M L (fun r_690 M_690 L_690 => vp_in (v3 + (1 : Int32)) N ∧ (wpX9_laws (xs (v3 + (1 : Int32)).toNatClampNeg) M_690 L_690 (fun r_699 M_699 L_699 => (r_690 = r_699 → wpL_law_951 N xs post K18 M_699 L_699 v3) ∧ (¬ (r_690 = r_699) → post (0 : Int32) M_699 L_699)))))) ∧ (¬ (a_33 = (19 : Int32)) → (a_33 = (20 : Int32) → vp_in (v3 + (1 : Int32)) N ∧ (wpX8_look (xs (v3 + (1 : Int32)).toNatClampNeg) M L (fun r_713 M_713 L_713 => vp_in (v3 + (1 : Int32)) N ∧ (wpX9_look (xs (v3 + (1 : Int32)).toNatClampNeg) M_713 L_713 (fun r_722 M_722 L_722 => (r_713 = r_722 → wpL_law_951 N xs post K18 M_722 L_722 v3) ∧ (¬ (r_713 = r_722) → post (0 : Int32) M_722 L_722)))))) ∧ (¬ (a_33 = (20 : Int32)) → (a_33 = (21 : Int32) → vp_in (v3 + (1 : Int32)) N ∧ (vp_in (v3 + (2 : Int32)) N ∧ (vp_in (v3 + (3 : Int32)) N ∧ (vp_in (v3 + (4 : Int32)) N ∧ (vp_in (v3 + (5 : Int32)) N ∧ (vp_in (v3 + (6 : Int32)) N ∧ (wpX8_gusts (xs (v3 + (1 : Int32)).toNatClampNeg) (xs (v3 + (2 : Int32)).toNatClampNeg) (xs (v3 + (3 : Int32)).toNatClampNeg) (xs (v3 + (4 : Int32)).toNatClampNeg) (xs (v3 + (5 : Int32)).toNatClampNeg) (xs (v3 + (6 : Int32)).toNatClampNeg) M L (fun r_762 M_762 L_762 => vp_in (v3 + (1 : Int32)) N ∧ (vp_in (v3 + (2 : Int32)) N ∧ (vp_in (v3 + (3 : Int32)) N ∧ (vp_in (v3 + (4 : Int32)) N ∧ (vp_in (v3 + (5 : Int32)) N ∧ (vp_in (v3 + (6 : Int32)) N ∧ (wpX9_gusts (xs (v3 + (1 : Int32)).toNatClampNeg) (xs (v3 + (2 : Int32)).toNatClampNeg) (xs (v3 + (3 : Int32)).toNatClampNeg) (xs (v3 + (4 : Int32)).toNatClampNeg) (xs (v3 + (5 : Int32)).toNatClampNeg) (xs (v3 + (6 : Int32)).toNatClampNeg) M_762 L_762 (fun r_797 M_797 L_797 => ((lg_cmp r_762 r_797) = 0 → wpL_law_951 N xs post K18 M_797 L_797 v3) ∧ (¬ ((lg_cmp r_762 r_797) = 0) → post (0 : Int32) M_797 L_797)))))))))))))))) ∧ (¬ (a_33 = (21 : Int32)) → (a_33 = (22 : Int32) → vp_in (v3 + (1 : Int32)) N ∧ (vp_in (v3 + (2 : Int32)) N ∧ (wpX8_spoon (xs (v3 + (1 : Int32)).toNatClampNeg) (xs (v3 + (2 : Int32)).toNatClampNeg) M L (fun r_817 M_817 L_817 => vp_in (v3 + (1 : Int32)) N ∧ (vp_in (v3 + (2 : Int32)) N ∧ (wpX9_spoon (xs (v3 + (1 : Int32)).toNatClampNeg) (xs (v3 + (2 : Int32)).toNatClampNeg) M_817 L_817 (fun r_831 M_831 L_831 => (r_817 = r_831 → wpL_law_951 N xs post K18 M_831 L_831 v3) ∧ (¬ (r_817 = r_831) → post (0 : Int32) M_831 L_831)))))))) ∧ (¬ (a_33 = (22 : Int32)) → (a_33 = (23 : Int32) → vp_in (v3 + (1 : Int32)) N ∧ (vp_in (v3 + (2 : Int32)) N ∧ (vp_in (v3 + (3 : Int32)) N ∧ (wpX8_year (xs (v3 + (1 : Int32)).toNatClampNeg) (xs (v3 + (2 : Int32)).toNatClampNeg) (xs (v3 + (3 : Int32)).toNatClampNeg) M L (fun r_855 M_855 L_855 => vp_in (v3 + (1 : Int32)) N ∧ (vp_in (v3 + (2 : Int32)) N ∧ (vp_in (v3 + (3 : Int32)) N ∧ (wpX9_year (xs (v3 + (1 : Int32)).toNatClampNeg) (xs (v3 + (2 : Int32)).toNatClampNeg) (xs (v3 + (3 : Int32)).toNatClampNeg) M_855 L_855 (fun r_874 M_874 L_874 => (r_855 = r_874 → wpL_law_951 N xs post K18 M_874 L_874 v3) ∧ (¬ (r_855 = r_874) → post (0 : Int32) M_874 L_874)))))))))) ∧ (¬ (a_33 = (23 : Int32)) → (a_33 = (24 : Int32) → vp_in (v3 + (1 : Int32)) N ∧ (wpX8_image (xs (v3 + (1 : Int32)).toNatClampNeg) M L (fun r_888 M_888 L_888 => vp_in (v3 + (1 : Int32)) N ∧ (wpX9_image (xs (v3 + (1 : Int32)).toNatClampNeg) M_888 L_888 (fun r_897 M_897 L_897 => (r_888 = r_897 → wpL_law_951 N xs post K18 M_897 L_897 v3) ∧ (¬ (r_888 = r_897) → post (0 : Int32) M_897 L_897)))))) ∧ (¬ (a_33 = (24 : Int32)) → (a_33 = (25 : Int32) → vp_in (v3 + (1 : Int32)) N ∧ (wpX8_restore (xs (v3 + (1 : Int32)).toNatClampNeg) M L (fun r_911 M_911 L_911 => vp_in (v3 + (1 : Int32)) N ∧ (wpX9_restore (xs (v3 + (1 : Int32)).toNatClampNeg) M_911 L_911 (fun r_920 M_920 L_920 => (r_911 = r_920 → wpL_law_951 N xs post K18 M_920 L_920 v3) ∧ (¬ (r_911 = r_920) → post (0 : Int32) M_920 L_920)))))) ∧ (¬ (a_33 = (25 : Int32)) → (a_33 = (26 : Int32) → vp_in (v3 + (1 : Int32)) N ∧ (wpX8_told (xs (v3 + (1 : Int32)).toNatClampNeg) M L (fun r_934 M_934 L_934 => vp_in (v3 + (1 : Int32)) N ∧ (wpX9_told (xs (v3 + (1 : Int32)).toNatClampNeg) M_934 L_934 (fun r_943 M_943 L_943 => (r_934 = r_943 → wpL_law_951 N xs post K18 M_943 L_943 v3) ∧ (¬ (r_934 = r_943) → post (0 : Int32) M_943 L_943)))))) ∧ (¬ (a_33 = (26 : Int32)) → wpL_law_951 N xs post K18 M L v3))))))))))))))))))))))))))))))
def wlL_law_18 (N : Nat) (xs : Nat → Int32) (post : Int32 → Mm → Ml → Prop) : Nat → (Mm × Ml × Int32) → Prop := zlp (fun K s => wpL_law_18 N xs post (fun M L v3 => K (M, L, v3)) s.1 s.2.1 s.2.2)
set_option maxRecDepth 20000 in
set_option maxHeartbeats 4000000 in
theorem mL_law_951 {p : Program} {l : Launch} {e : Env} {s : State} {m : MethodId} {args : Array Value} {below : List Frame} {meth : Method} {c : Code} {cells slots : Nat} {Q : State → Prop} {D : va_G} {cy : Nat → ClassId} {ad : Nat → Nat} {A : Nat → Prop} (X : zCx p room_1 s m args c cells slots cL_law 4 RL D cy ad A) {b N : Nat} {xs : Nat → Int32} (hX : va_X b N xs s s.heap) (hbl : b < s.heap.size) (hbA : ¬ A b) (post : Int32 → Mm → Ml → Prop) (hret : zRi p l e room_1 s m args below meth c cells slots Q cL_law D cy ad A .boolean post) (K18 : Mm → Ml → Int32 → Prop) (hK18 : ∀ (M : Mm) (L : Ml) (v3 : Int32) (H : Heap) (locs : List Loc) (ls : Array Slot), K18 M L v3 → zWd D cy ad A s H locs M L → lv_has ls 4 [(0, .ref b), (1, .ref (ad 0)), (2, .ref (ad 42)), (3, .int v3)] → W p l e room_1 s m args below meth c H locs cells slots Q (F0 m 18 ls [])) : ∀ (M : Mm) (L : Ml) (v3 : Int32) (H : Heap) (locs : List Loc) (ls : Array Slot), wpL_law_951 N xs post K18 M L v3 → zWd D cy ad A s H locs M L → lv_has ls 4 [(0, .ref b), (1, .ref (ad 0)), (2, .ref (ad 42)), (3, .int v3)] → W p l e room_1 s m args below meth c H locs cells slots Q (F0 m 951 ls []) := by
  have hx := X.1.1; have hb0 := X.1.2.1; have hts := X.1.2.2.2.2
  intro M L v3 H locs ls hw hW hl
  unfold wpL_law_951 at hw
  obtain ⟨a_951, e_951⟩ : ∃ y : Int32, y = v3 + (7 : Int32) := ⟨_, rfl⟩
  replace hw := hw a_951 e_951
  refine lv_iinc (v := a_951) (lv' := [(3, .int a_951), (0, .ref b), (1, .ref (ad 0)), (2, .ref (ad 42))]) hx hb0 dL_law_951 hl (k := 3) rfl (by rw [e_951]; rfl) (by decide) rfl (fun ls hl => ?_)
  refine lv_goto (tgt := 18) hx hb0 dL_law_954 (by decide) ?_
  exact hK18 M L a_951 _ _ ls hw hW (lv_sub hl [1, 2, 3, 0] rfl)
set_option maxRecDepth 20000 in
set_option maxHeartbeats 4000000 in
theorem mL_law_18 {p : Program} {l : Launch} {e : Env} {s : State} {m : MethodId} {args : Array Value} {below : List Frame} {meth : Method} {c : Code} {cells slots : Nat} {Q : State → Prop} {D : va_G} {cy : Nat → ClassId} {ad : Nat → Nat} {A : Nat → Prop} (X : zCx p room_1 s m args c cells slots cL_law 4 RL D cy ad A) {b N : Nat} {xs : Nat → Int32} (hX : va_X b N xs s s.heap) (hbl : b < s.heap.size) (hbA : ¬ A b) (post : Int32 → Mm → Ml → Prop) (hret : zRi p l e room_1 s m args below meth c cells slots Q cL_law D cy ad A .boolean post) : ∀ (j9 : Nat) (M : Mm) (L : Ml) (v3 : Int32) (H : Heap) (locs : List Loc) (ls : Array Slot), wlL_law_18 N xs post j9 (M, L, v3) → zWd D cy ad A s H locs M L → lv_has ls 4 [(0, .ref b), (1, .ref (ad 0)), (2, .ref (ad 42)), (3, .int v3)] → W p l e room_1 s m args below meth c H locs cells slots Q (F0 m 18 ls []) := by
  have hx := X.1.1; have hb0 := X.1.2.1; have hts := X.1.2.2.2.2
  intro j9
  induction j9 with
  | zero => intro M L v3 H locs ls hw; exact hw.elim
  | succ j9 ih =>
    obtain ⟨K18, hKe⟩ : ∃ K : Mm → Ml → Int32 → Prop, K = fun M L v3 => wlL_law_18 N xs post j9 (M, L, v3) := ⟨_, rfl⟩
    have hK18 : ∀ (M : Mm) (L : Ml) (v3 : Int32) (H : Heap) (locs : List Loc) (ls : Array Slot), K18 M L v3 → zWd D cy ad A s H locs M L → lv_has ls 4 [(0, .ref b), (1, .ref (ad 0)), (2, .ref (ad 42)), (3, .int v3)] → W p l e room_1 s m args below meth c H locs cells slots Q (F0 m 18 ls []) := by intro M L v3 H locs ls hw; rw [hKe] at hw; exact ih M L v3 H locs ls hw
    intro M L v3 H locs ls hw hW hl
    have hw : wpL_law_18 N xs post K18 M L v3 := by rw [hKe]; exact hw
    clear ih
    unfold wpL_law_18 at hw
    refine lv_iload_n hx hb0 dL_law_18 rfl (lv_at hl 3 rfl) ?_
    refine lv_aload_n hx hb0 dL_law_19 rfl (lv_at hl 0 rfl) ?_
    refine va_slen hx hb0 hX hbl hbA hW.2 dL_law_20 ?_
    refine lv_bipush (v := (7 : Int32)) hx hb0 dL_law_21 (by decide) ?_
    refine lv_isub hx hb0 dL_law_23 ?_
    refine lv_icmp_gt (tgt := 957) hx hb0 dL_law_24 (by decide) (fun c_24 => ?_) (fun c_24 => ?_)
    · replace hw := hw.1 c_24
      refine lv_iconst (v := (1 : Int32)) hx hb0 dL_law_957 (by decide) ?_
      exact hret _ ls _ _ (1 : Int32) M L dL_law_958 rfl hw hW
    · replace hw := hw.2 c_24
      refine lv_aload_n hx hb0 dL_law_27 rfl (lv_at hl 0 rfl) ?_
      refine lv_iload_n hx hb0 dL_law_28 rfl (lv_at hl 3 rfl) ?_
      obtain ⟨g_29, hw⟩ := hw
      refine va_sld hx hb0 hX hbl hbA hW.2 g_29 dL_law_29 ?_
      refine lv_bipush (v := (31 : Int32)) hx hb0 dL_law_30 (by decide) ?_
      refine lv_iand hx hb0 dL_law_32 ?_
      refine lv_topi (fun a_33 e_33 => ?_)
      replace hw := hw a_33 e_33
      by_cases c_33_0 : a_33 = (0 : Int32)
      · replace hw := hw.1 c_33_0
        refine lv_tableIn (tgt := 156) (off := 123) hx hb0 dL_law_33 (by rw [c_33_0]; decide) (by rw [c_33_0]; decide) (by rw [c_33_0]; rfl) (by decide) ?_
        refine lv_aload_n hx hb0 dL_law_156 rfl (lv_at hl 1 rfl) ?_
        refine lv_aload_n hx hb0 dL_law_157 rfl (lv_at hl 0 rfl) ?_
        refine lv_iload_n hx hb0 dL_law_158 rfl (lv_at hl 3 rfl) ?_
        refine lv_iconst (v := (1 : Int32)) hx hb0 dL_law_159 (by decide) ?_
        refine lv_iadd hx hb0 dL_law_160 ?_
        obtain ⟨g_161, hw⟩ := hw
        refine va_sld hx hb0 hX hbl hbA hW.2 g_161 dL_law_161 ?_
        refine lv_aload_n hx hb0 dL_law_162 rfl (lv_at hl 0 rfl) ?_
        refine lv_iload_n hx hb0 dL_law_163 rfl (lv_at hl 3 rfl) ?_
        refine lv_iconst (v := (2 : Int32)) hx hb0 dL_law_164 (by decide) ?_
        refine lv_iadd hx hb0 dL_law_165 ?_
        obtain ⟨g_166, hw⟩ := hw
        refine va_sld hx hb0 hX hbl hbA hW.2 g_166 dL_law_166 ?_
        refine lv_aload_n hx hb0 dL_law_167 rfl (lv_at hl 0 rfl) ?_
        refine lv_iload_n hx hb0 dL_law_168 rfl (lv_at hl 3 rfl) ?_
        refine lv_iconst (v := (3 : Int32)) hx hb0 dL_law_169 (by decide) ?_
        refine lv_iadd hx hb0 dL_law_170 ?_
        obtain ⟨g_171, hw⟩ := hw
        refine va_sld hx hb0 hX hbl hbA hW.2 g_171 dL_law_171 ?_
        refine lv_aload_n hx hb0 dL_law_172 rfl (lv_at hl 0 rfl) ?_
        refine lv_iload_n hx hb0 dL_law_173 rfl (lv_at hl 3 rfl) ?_
        refine lv_iconst (v := (4 : Int32)) hx hb0 dL_law_174 (by decide) ?_
        refine lv_iadd hx hb0 dL_law_175 ?_
        obtain ⟨g_176, hw⟩ := hw
        refine va_sld hx hb0 hX hbl hbA hW.2 g_176 dL_law_176 ?_
        refine lv_aload_n hx hb0 dL_law_177 rfl (lv_at hl 0 rfl) ?_
        refine lv_iload_n hx hb0 dL_law_178 rfl (lv_at hl 3 rfl) ?_
        refine lv_iconst (v := (5 : Int32)) hx hb0 dL_law_179 (by decide) ?_
        refine lv_iadd hx hb0 dL_law_180 ?_
        obtain ⟨g_181, hw⟩ := hw
        refine va_sld hx hb0 hX hbl hbA hW.2 g_181 dL_law_181 ?_
        refine z_Vi X zO_0 zC6 zc_X8_flake zs_X8_flake zl_L_13 rfl ⟨rfl, rfl⟩ ⟨Nat.le_of_ble_eq_true rfl, Nat.le_of_ble_eq_true rfl⟩ (kX8_flake l D cy ad X.2.2.2.1 (xs (v3 + (1 : Int32)).toNatClampNeg) (xs (v3 + (2 : Int32)).toNatClampNeg) (xs (v3 + (3 : Int32)).toNatClampNeg) (xs (v3 + (4 : Int32)).toNatClampNeg) (xs (v3 + (5 : Int32)).toNatClampNeg)) hW hw hl.1 rfl rfl (Nat.le_of_ble_eq_true rfl) dL_law_182 (fun r_182 M_182 L_182 H_182 locs_182 hw hW => ?_)
        refine lv_aload_n hx hb0 dL_law_185 rfl (lv_at hl 2 rfl) ?_
        refine lv_aload_n hx hb0 dL_law_186 rfl (lv_at hl 0 rfl) ?_
        refine lv_iload_n hx hb0 dL_law_187 rfl (lv_at hl 3 rfl) ?_
        refine lv_iconst (v := (1 : Int32)) hx hb0 dL_law_188 (by decide) ?_
        refine lv_iadd hx hb0 dL_law_189 ?_
        obtain ⟨g_190, hw⟩ := hw
        refine va_sld hx hb0 hX hbl hbA hW.2 g_190 dL_law_190 ?_
        refine lv_aload_n hx hb0 dL_law_191 rfl (lv_at hl 0 rfl) ?_
        refine lv_iload_n hx hb0 dL_law_192 rfl (lv_at hl 3 rfl) ?_
        refine lv_iconst (v := (2 : Int32)) hx hb0 dL_law_193 (by decide) ?_
        refine lv_iadd hx hb0 dL_law_194 ?_
        obtain ⟨g_195, hw⟩ := hw
        refine va_sld hx hb0 hX hbl hbA hW.2 g_195 dL_law_195 ?_
        refine lv_aload_n hx hb0 dL_law_196 rfl (lv_at hl 0 rfl) ?_
        refine lv_iload_n hx hb0 dL_law_197 rfl (lv_at hl 3 rfl) ?_
        refine lv_iconst (v := (3 : Int32)) hx hb0 dL_law_198 (by decide) ?_
        refine lv_iadd hx hb0 dL_law_199 ?_
        obtain ⟨g_200, hw⟩ := hw
        refine va_sld hx hb0 hX hbl hbA hW.2 g_200 dL_law_200 ?_
        refine lv_aload_n hx hb0 dL_law_201 rfl (lv_at hl 0 rfl) ?_
        refine lv_iload_n hx hb0 dL_law_202 rfl (lv_at hl 3 rfl) ?_
        refine lv_iconst (v := (4 : Int32)) hx hb0 dL_law_203 (by decide) ?_
        refine lv_iadd hx hb0 dL_law_204 ?_
        obtain ⟨g_205, hw⟩ := hw
        refine va_sld hx hb0 hX hbl hbA hW.2 g_205 dL_law_205 ?_
        refine lv_aload_n hx hb0 dL_law_206 rfl (lv_at hl 0 rfl) ?_
        refine lv_iload_n hx hb0 dL_law_207 rfl (lv_at hl 3 rfl) ?_
        refine lv_iconst (v := (5 : Int32)) hx hb0 dL_law_208 (by decide) ?_
        refine lv_iadd hx hb0 dL_law_209 ?_
        obtain ⟨g_210, hw⟩ := hw
        refine va_sld hx hb0 hX hbl hbA hW.2 g_210 dL_law_210 ?_
        refine z_Vi X zO_42 zC7 zc_X9_flake zs_X9_flake zl_L_17 rfl ⟨rfl, rfl⟩ ⟨Nat.le_of_ble_eq_true rfl, Nat.le_of_ble_eq_true rfl⟩ (kX9_flake l D cy ad X.2.2.2.1 (xs (v3 + (1 : Int32)).toNatClampNeg) (xs (v3 + (2 : Int32)).toNatClampNeg) (xs (v3 + (3 : Int32)).toNatClampNeg) (xs (v3 + (4 : Int32)).toNatClampNeg) (xs (v3 + (5 : Int32)).toNatClampNeg)) hW hw hl.1 rfl rfl (Nat.le_of_ble_eq_true rfl) dL_law_211 (fun r_211 M_211 L_211 H_211 locs_211 hw hW => ?_)
        refine lv_icmp_eq (tgt := 951) hx hb0 dL_law_214 (by decide) (fun c_214 => ?_) (fun c_214 => ?_)
        · replace hw := hw.1 c_214
          exact mL_law_951 X hX hbl hbA post hret K18 hK18 M_211 L_211 v3 _ _ ls hw hW (lv_sub hl [0, 1, 2, 3] rfl)
        · replace hw := hw.2 c_214
          refine lv_iconst (v := (0 : Int32)) hx hb0 dL_law_217 (by decide) ?_
          exact hret _ ls _ _ (0 : Int32) M_211 L_211 dL_law_218 rfl hw hW
      · replace hw := hw.2 c_33_0
        by_cases c_33_1 : a_33 = (1 : Int32)
        · replace hw := hw.1 c_33_1
          refine lv_tableIn (tgt := 219) (off := 186) hx hb0 dL_law_33 (by rw [c_33_1]; decide) (by rw [c_33_1]; decide) (by rw [c_33_1]; rfl) (by decide) ?_
          refine lv_aload_n hx hb0 dL_law_219 rfl (lv_at hl 1 rfl) ?_
          refine lv_aload_n hx hb0 dL_law_220 rfl (lv_at hl 0 rfl) ?_
          refine lv_iload_n hx hb0 dL_law_221 rfl (lv_at hl 3 rfl) ?_
          refine lv_iconst (v := (1 : Int32)) hx hb0 dL_law_222 (by decide) ?_
          refine lv_iadd hx hb0 dL_law_223 ?_
          obtain ⟨g_224, hw⟩ := hw
          refine va_sld hx hb0 hX hbl hbA hW.2 g_224 dL_law_224 ?_
          refine z_Vi X zO_0 zC6 zc_X8_melt zs_X8_melt zl_L_18 rfl ⟨rfl, rfl⟩ ⟨Nat.le_of_ble_eq_true rfl, Nat.le_of_ble_eq_true rfl⟩ (kX8_melt l D cy ad X.2.2.2.1 (xs (v3 + (1 : Int32)).toNatClampNeg)) hW hw hl.1 rfl rfl (Nat.le_of_ble_eq_true rfl) dL_law_225 (fun r_225 M_225 L_225 H_225 locs_225 hw hW => ?_)
          refine lv_aload_n hx hb0 dL_law_228 rfl (lv_at hl 2 rfl) ?_
          refine lv_aload_n hx hb0 dL_law_229 rfl (lv_at hl 0 rfl) ?_
          refine lv_iload_n hx hb0 dL_law_230 rfl (lv_at hl 3 rfl) ?_
          refine lv_iconst (v := (1 : Int32)) hx hb0 dL_law_231 (by decide) ?_
          refine lv_iadd hx hb0 dL_law_232 ?_
          obtain ⟨g_233, hw⟩ := hw
          refine va_sld hx hb0 hX hbl hbA hW.2 g_233 dL_law_233 ?_
          refine z_Vi X zO_42 zC7 zc_X9_melt zs_X9_melt zl_L_22 rfl ⟨rfl, rfl⟩ ⟨Nat.le_of_ble_eq_true rfl, Nat.le_of_ble_eq_true rfl⟩ (kX9_melt l D cy ad X.2.2.2.1 (xs (v3 + (1 : Int32)).toNatClampNeg)) hW hw hl.1 rfl rfl (Nat.le_of_ble_eq_true rfl) dL_law_234 (fun r_234 M_234 L_234 H_234 locs_234 hw hW => ?_)
          refine lv_icmp_eq (tgt := 951) hx hb0 dL_law_237 (by decide) (fun c_237 => ?_) (fun c_237 => ?_)
          · replace hw := hw.1 c_237
            exact mL_law_951 X hX hbl hbA post hret K18 hK18 M_234 L_234 v3 _ _ ls hw hW (lv_sub hl [0, 1, 2, 3] rfl)
          · replace hw := hw.2 c_237
            refine lv_iconst (v := (0 : Int32)) hx hb0 dL_law_240 (by decide) ?_
            exact hret _ ls _ _ (0 : Int32) M_234 L_234 dL_law_241 rfl hw hW
        · replace hw := hw.2 c_33_1
          by_cases c_33_2 : a_33 = (2 : Int32)
          · replace hw := hw.1 c_33_2
            refine lv_tableIn (tgt := 242) (off := 209) hx hb0 dL_law_33 (by rw [c_33_2]; decide) (by rw [c_33_2]; decide) (by rw [c_33_2]; rfl) (by decide) ?_
            refine lv_aload_n hx hb0 dL_law_242 rfl (lv_at hl 1 rfl) ?_
            refine lv_aload_n hx hb0 dL_law_243 rfl (lv_at hl 0 rfl) ?_
            refine lv_iload_n hx hb0 dL_law_244 rfl (lv_at hl 3 rfl) ?_
            refine lv_iconst (v := (1 : Int32)) hx hb0 dL_law_245 (by decide) ?_
            refine lv_iadd hx hb0 dL_law_246 ?_
            obtain ⟨g_247, hw⟩ := hw
            refine va_sld hx hb0 hX hbl hbA hW.2 g_247 dL_law_247 ?_
            refine lv_aload_n hx hb0 dL_law_248 rfl (lv_at hl 0 rfl) ?_
            refine lv_iload_n hx hb0 dL_law_249 rfl (lv_at hl 3 rfl) ?_
            refine lv_iconst (v := (2 : Int32)) hx hb0 dL_law_250 (by decide) ?_
            refine lv_iadd hx hb0 dL_law_251 ?_
            obtain ⟨g_252, hw⟩ := hw
            refine va_sld hx hb0 hX hbl hbA hW.2 g_252 dL_law_252 ?_
            refine z_Vi X zO_0 zC6 zc_X8_stand zs_X8_stand zl_L_23 rfl ⟨rfl, rfl⟩ ⟨Nat.le_of_ble_eq_true rfl, Nat.le_of_ble_eq_true rfl⟩ (kX8_stand l D cy ad X.2.2.2.1 (xs (v3 + (1 : Int32)).toNatClampNeg) (xs (v3 + (2 : Int32)).toNatClampNeg)) hW hw hl.1 rfl rfl (Nat.le_of_ble_eq_true rfl) dL_law_253 (fun r_253 M_253 L_253 H_253 locs_253 hw hW => ?_)
            refine lv_aload_n hx hb0 dL_law_256 rfl (lv_at hl 2 rfl) ?_
            refine lv_aload_n hx hb0 dL_law_257 rfl (lv_at hl 0 rfl) ?_
            refine lv_iload_n hx hb0 dL_law_258 rfl (lv_at hl 3 rfl) ?_
            refine lv_iconst (v := (1 : Int32)) hx hb0 dL_law_259 (by decide) ?_
            refine lv_iadd hx hb0 dL_law_260 ?_
            obtain ⟨g_261, hw⟩ := hw
            refine va_sld hx hb0 hX hbl hbA hW.2 g_261 dL_law_261 ?_
            refine lv_aload_n hx hb0 dL_law_262 rfl (lv_at hl 0 rfl) ?_
            refine lv_iload_n hx hb0 dL_law_263 rfl (lv_at hl 3 rfl) ?_
            refine lv_iconst (v := (2 : Int32)) hx hb0 dL_law_264 (by decide) ?_
            refine lv_iadd hx hb0 dL_law_265 ?_
            obtain ⟨g_266, hw⟩ := hw
            refine va_sld hx hb0 hX hbl hbA hW.2 g_266 dL_law_266 ?_
            refine z_Vi X zO_42 zC7 zc_X9_stand zs_X9_stand zl_L_27 rfl ⟨rfl, rfl⟩ ⟨Nat.le_of_ble_eq_true rfl, Nat.le_of_ble_eq_true rfl⟩ (kX9_stand l D cy ad X.2.2.2.1 (xs (v3 + (1 : Int32)).toNatClampNeg) (xs (v3 + (2 : Int32)).toNatClampNeg)) hW hw hl.1 rfl rfl (Nat.le_of_ble_eq_true rfl) dL_law_267 (fun r_267 M_267 L_267 H_267 locs_267 hw hW => ?_)
            refine lv_icmp_eq (tgt := 951) hx hb0 dL_law_270 (by decide) (fun c_270 => ?_) (fun c_270 => ?_)
            · replace hw := hw.1 c_270
              exact mL_law_951 X hX hbl hbA post hret K18 hK18 M_267 L_267 v3 _ _ ls hw hW (lv_sub hl [0, 1, 2, 3] rfl)
            · replace hw := hw.2 c_270
              refine lv_iconst (v := (0 : Int32)) hx hb0 dL_law_273 (by decide) ?_
              exact hret _ ls _ _ (0 : Int32) M_267 L_267 dL_law_274 rfl hw hW
          · replace hw := hw.2 c_33_2
            by_cases c_33_3 : a_33 = (3 : Int32)
            · replace hw := hw.1 c_33_3
              refine lv_tableIn (tgt := 275) (off := 242) hx hb0 dL_law_33 (by rw [c_33_3]; decide) (by rw [c_33_3]; decide) (by rw [c_33_3]; rfl) (by decide) ?_
              refine lv_aload_n hx hb0 dL_law_275 rfl (lv_at hl 1 rfl) ?_
              refine lv_aload_n hx hb0 dL_law_276 rfl (lv_at hl 0 rfl) ?_
              refine lv_iload_n hx hb0 dL_law_277 rfl (lv_at hl 3 rfl) ?_
              refine lv_iconst (v := (1 : Int32)) hx hb0 dL_law_278 (by decide) ?_
              refine lv_iadd hx hb0 dL_law_279 ?_
              obtain ⟨g_280, hw⟩ := hw
              refine va_sld hx hb0 hX hbl hbA hW.2 g_280 dL_law_280 ?_
              refine lv_aload_n hx hb0 dL_law_281 rfl (lv_at hl 0 rfl) ?_
              refine lv_iload_n hx hb0 dL_law_282 rfl (lv_at hl 3 rfl) ?_
              refine lv_iconst (v := (2 : Int32)) hx hb0 dL_law_283 (by decide) ?_
              refine lv_iadd hx hb0 dL_law_284 ?_
              obtain ⟨g_285, hw⟩ := hw
              refine va_sld hx hb0 hX hbl hbA hW.2 g_285 dL_law_285 ?_
              refine z_Vi X zO_0 zC6 zc_X8_air zs_X8_air zl_L_28 rfl ⟨rfl, rfl⟩ ⟨Nat.le_of_ble_eq_true rfl, Nat.le_of_ble_eq_true rfl⟩ (kX8_air l D cy ad X.2.2.2.1 (xs (v3 + (1 : Int32)).toNatClampNeg) (xs (v3 + (2 : Int32)).toNatClampNeg)) hW hw hl.1 rfl rfl (Nat.le_of_ble_eq_true rfl) dL_law_286 (fun r_286 M_286 L_286 H_286 locs_286 hw hW => ?_)
              refine lv_aload_n hx hb0 dL_law_289 rfl (lv_at hl 2 rfl) ?_
              refine lv_aload_n hx hb0 dL_law_290 rfl (lv_at hl 0 rfl) ?_
              refine lv_iload_n hx hb0 dL_law_291 rfl (lv_at hl 3 rfl) ?_
              refine lv_iconst (v := (1 : Int32)) hx hb0 dL_law_292 (by decide) ?_
              refine lv_iadd hx hb0 dL_law_293 ?_
              obtain ⟨g_294, hw⟩ := hw
              refine va_sld hx hb0 hX hbl hbA hW.2 g_294 dL_law_294 ?_
              refine lv_aload_n hx hb0 dL_law_295 rfl (lv_at hl 0 rfl) ?_
              refine lv_iload_n hx hb0 dL_law_296 rfl (lv_at hl 3 rfl) ?_
              refine lv_iconst (v := (2 : Int32)) hx hb0 dL_law_297 (by decide) ?_
              refine lv_iadd hx hb0 dL_law_298 ?_
              obtain ⟨g_299, hw⟩ := hw
              refine va_sld hx hb0 hX hbl hbA hW.2 g_299 dL_law_299 ?_
              refine z_Vi X zO_42 zC7 zc_X9_air zs_X9_air zl_L_31 rfl ⟨rfl, rfl⟩ ⟨Nat.le_of_ble_eq_true rfl, Nat.le_of_ble_eq_true rfl⟩ (kX9_air l D cy ad X.2.2.2.1 (xs (v3 + (1 : Int32)).toNatClampNeg) (xs (v3 + (2 : Int32)).toNatClampNeg)) hW hw hl.1 rfl rfl (Nat.le_of_ble_eq_true rfl) dL_law_300 (fun r_300 M_300 L_300 H_300 locs_300 hw hW => ?_)
              refine lv_icmp_eq (tgt := 951) hx hb0 dL_law_303 (by decide) (fun c_303 => ?_) (fun c_303 => ?_)
              · replace hw := hw.1 c_303
                exact mL_law_951 X hX hbl hbA post hret K18 hK18 M_300 L_300 v3 _ _ ls hw hW (lv_sub hl [0, 1, 2, 3] rfl)
              · replace hw := hw.2 c_303
                refine lv_iconst (v := (0 : Int32)) hx hb0 dL_law_306 (by decide) ?_
                exact hret _ ls _ _ (0 : Int32) M_300 L_300 dL_law_307 rfl hw hW
            · replace hw := hw.2 c_33_3
              by_cases c_33_4 : a_33 = (4 : Int32)
              · replace hw := hw.1 c_33_4
                refine lv_tableIn (tgt := 308) (off := 275) hx hb0 dL_law_33 (by rw [c_33_4]; decide) (by rw [c_33_4]; decide) (by rw [c_33_4]; rfl) (by decide) ?_
                refine lv_aload_n hx hb0 dL_law_308 rfl (lv_at hl 1 rfl) ?_
                refine lv_aload_n hx hb0 dL_law_309 rfl (lv_at hl 0 rfl) ?_
                refine lv_iload_n hx hb0 dL_law_310 rfl (lv_at hl 3 rfl) ?_
                refine lv_iconst (v := (1 : Int32)) hx hb0 dL_law_311 (by decide) ?_
                refine lv_iadd hx hb0 dL_law_312 ?_
                obtain ⟨g_313, hw⟩ := hw
                refine va_sld hx hb0 hX hbl hbA hW.2 g_313 dL_law_313 ?_
                refine z_Vi X zO_0 zC6 zc_X8_say zs_X8_say zl_L_32 rfl ⟨rfl, rfl⟩ ⟨Nat.le_of_ble_eq_true rfl, Nat.le_of_ble_eq_true rfl⟩ (kX8_say l D cy ad X.2.2.2.1 (xs (v3 + (1 : Int32)).toNatClampNeg)) hW hw hl.1 rfl rfl (Nat.le_of_ble_eq_true rfl) dL_law_314 (fun r_314 M_314 L_314 H_314 locs_314 hw hW => ?_)
                refine lv_aload_n hx hb0 dL_law_317 rfl (lv_at hl 2 rfl) ?_
                refine lv_aload_n hx hb0 dL_law_318 rfl (lv_at hl 0 rfl) ?_
                refine lv_iload_n hx hb0 dL_law_319 rfl (lv_at hl 3 rfl) ?_
                refine lv_iconst (v := (1 : Int32)) hx hb0 dL_law_320 (by decide) ?_
                refine lv_iadd hx hb0 dL_law_321 ?_
                obtain ⟨g_322, hw⟩ := hw
                refine va_sld hx hb0 hX hbl hbA hW.2 g_322 dL_law_322 ?_
                refine z_Vi X zO_42 zC7 zc_X9_say zs_X9_say zl_L_35 rfl ⟨rfl, rfl⟩ ⟨Nat.le_of_ble_eq_true rfl, Nat.le_of_ble_eq_true rfl⟩ (kX9_say l D cy ad X.2.2.2.1 (xs (v3 + (1 : Int32)).toNatClampNeg)) hW hw hl.1 rfl rfl (Nat.le_of_ble_eq_true rfl) dL_law_323 (fun r_323 M_323 L_323 H_323 locs_323 hw hW => ?_)
                refine lv_icmp_eq (tgt := 951) hx hb0 dL_law_326 (by decide) (fun c_326 => ?_) (fun c_326 => ?_)
                · replace hw := hw.1 c_326
                  exact mL_law_951 X hX hbl hbA post hret K18 hK18 M_323 L_323 v3 _ _ ls hw hW (lv_sub hl [0, 1, 2, 3] rfl)
                · replace hw := hw.2 c_326
                  refine lv_iconst (v := (0 : Int32)) hx hb0 dL_law_329 (by decide) ?_
                  exact hret _ ls _ _ (0 : Int32) M_323 L_323 dL_law_330 rfl hw hW
              · replace hw := hw.2 c_33_4
                by_cases c_33_5 : a_33 = (5 : Int32)
                · replace hw := hw.1 c_33_5
                  refine lv_tableIn (tgt := 331) (off := 298) hx hb0 dL_law_33 (by rw [c_33_5]; decide) (by rw [c_33_5]; decide) (by rw [c_33_5]; rfl) (by decide) ?_
                  refine lv_aload_n hx hb0 dL_law_331 rfl (lv_at hl 1 rfl) ?_
                  refine z_Vi X zO_0 zC6 zc_X8_wipe zs_X8_wipe zl_L_36 rfl ⟨rfl, rfl⟩ ⟨Nat.le_of_ble_eq_true rfl, Nat.le_of_ble_eq_true rfl⟩ (kX8_wipe l D cy ad X.2.2.2.1) hW hw hl.1 rfl rfl (Nat.le_of_ble_eq_true rfl) dL_law_332 (fun r_332 M_332 L_332 H_332 locs_332 hw hW => ?_)
                  refine lv_aload_n hx hb0 dL_law_335 rfl (lv_at hl 2 rfl) ?_
                  refine z_Vi X zO_42 zC7 zc_X9_wipe zs_X9_wipe zl_L_40 rfl ⟨rfl, rfl⟩ ⟨Nat.le_of_ble_eq_true rfl, Nat.le_of_ble_eq_true rfl⟩ (kX9_wipe l D cy ad X.2.2.2.1) hW hw hl.1 rfl rfl (Nat.le_of_ble_eq_true rfl) dL_law_336 (fun r_336 M_336 L_336 H_336 locs_336 hw hW => ?_)
                  refine lv_icmp_eq (tgt := 951) hx hb0 dL_law_339 (by decide) (fun c_339 => ?_) (fun c_339 => ?_)
                  · replace hw := hw.1 c_339
                    exact mL_law_951 X hX hbl hbA post hret K18 hK18 M_336 L_336 v3 _ _ ls hw hW (lv_sub hl [0, 1, 2, 3] rfl)
                  · replace hw := hw.2 c_339
                    refine lv_iconst (v := (0 : Int32)) hx hb0 dL_law_342 (by decide) ?_
                    exact hret _ ls _ _ (0 : Int32) M_336 L_336 dL_law_343 rfl hw hW
                · replace hw := hw.2 c_33_5
                  by_cases c_33_6 : a_33 = (6 : Int32)
                  · replace hw := hw.1 c_33_6
                    refine lv_tableIn (tgt := 344) (off := 311) hx hb0 dL_law_33 (by rw [c_33_6]; decide) (by rw [c_33_6]; decide) (by rw [c_33_6]; rfl) (by decide) ?_
                    refine lv_aload_n hx hb0 dL_law_344 rfl (lv_at hl 1 rfl) ?_
                    refine z_Vi X zO_0 zC6 zc_X8_fault zs_X8_fault zl_L_41 rfl ⟨rfl, rfl⟩ ⟨Nat.le_of_ble_eq_true rfl, Nat.le_of_ble_eq_true rfl⟩ (kX8_fault l D cy ad X.2.2.2.1) hW hw hl.1 rfl rfl (Nat.le_of_ble_eq_true rfl) dL_law_345 (fun r_345 M_345 L_345 H_345 locs_345 hw hW => ?_)
                    refine lv_aload_n hx hb0 dL_law_348 rfl (lv_at hl 2 rfl) ?_
                    refine z_Vi X zO_42 zC7 zc_X9_fault zs_X9_fault zl_L_44 rfl ⟨rfl, rfl⟩ ⟨Nat.le_of_ble_eq_true rfl, Nat.le_of_ble_eq_true rfl⟩ (kX9_fault l D cy ad X.2.2.2.1) hW hw hl.1 rfl rfl (Nat.le_of_ble_eq_true rfl) dL_law_349 (fun r_349 M_349 L_349 H_349 locs_349 hw hW => ?_)
                    refine lv_icmp_eq (tgt := 951) hx hb0 dL_law_352 (by decide) (fun c_352 => ?_) (fun c_352 => ?_)
                    · replace hw := hw.1 c_352
                      exact mL_law_951 X hX hbl hbA post hret K18 hK18 M_349 L_349 v3 _ _ ls hw hW (lv_sub hl [0, 1, 2, 3] rfl)
                    · replace hw := hw.2 c_352
                      refine lv_iconst (v := (0 : Int32)) hx hb0 dL_law_355 (by decide) ?_
                      exact hret _ ls _ _ (0 : Int32) M_349 L_349 dL_law_356 rfl hw hW
                  · replace hw := hw.2 c_33_6
                    by_cases c_33_7 : a_33 = (7 : Int32)
                    · replace hw := hw.1 c_33_7
                      refine lv_tableIn (tgt := 357) (off := 324) hx hb0 dL_law_33 (by rw [c_33_7]; decide) (by rw [c_33_7]; decide) (by rw [c_33_7]; rfl) (by decide) ?_
                      refine lv_aload_n hx hb0 dL_law_357 rfl (lv_at hl 1 rfl) ?_
                      refine lv_aload_n hx hb0 dL_law_358 rfl (lv_at hl 0 rfl) ?_
                      refine lv_iload_n hx hb0 dL_law_359 rfl (lv_at hl 3 rfl) ?_
                      refine lv_iconst (v := (1 : Int32)) hx hb0 dL_law_360 (by decide) ?_
                      refine lv_iadd hx hb0 dL_law_361 ?_
                      obtain ⟨g_362, hw⟩ := hw
                      refine va_sld hx hb0 hX hbl hbA hW.2 g_362 dL_law_362 ?_
                      refine z_Vi X zO_0 zC6 zc_X8_judge zs_X8_judge zl_L_45 rfl ⟨rfl, rfl⟩ ⟨Nat.le_of_ble_eq_true rfl, Nat.le_of_ble_eq_true rfl⟩ (kX8_judge l D cy ad X.2.2.2.1 (xs (v3 + (1 : Int32)).toNatClampNeg)) hW hw hl.1 rfl rfl (Nat.le_of_ble_eq_true rfl) dL_law_363 (fun r_363 M_363 L_363 H_363 locs_363 hw hW => ?_)
                      refine lv_aload_n hx hb0 dL_law_366 rfl (lv_at hl 2 rfl) ?_
                      refine lv_aload_n hx hb0 dL_law_367 rfl (lv_at hl 0 rfl) ?_
                      refine lv_iload_n hx hb0 dL_law_368 rfl (lv_at hl 3 rfl) ?_
                      refine lv_iconst (v := (1 : Int32)) hx hb0 dL_law_369 (by decide) ?_
                      refine lv_iadd hx hb0 dL_law_370 ?_
                      obtain ⟨g_371, hw⟩ := hw
                      refine va_sld hx hb0 hX hbl hbA hW.2 g_371 dL_law_371 ?_
                      refine z_Vi X zO_42 zC7 zc_X9_judge zs_X9_judge zl_L_48 rfl ⟨rfl, rfl⟩ ⟨Nat.le_of_ble_eq_true rfl, Nat.le_of_ble_eq_true rfl⟩ (kX9_judge l D cy ad X.2.2.2.1 (xs (v3 + (1 : Int32)).toNatClampNeg)) hW hw hl.1 rfl rfl (Nat.le_of_ble_eq_true rfl) dL_law_372 (fun r_372 M_372 L_372 H_372 locs_372 hw hW => ?_)
                      refine lv_icmp_eq (tgt := 951) hx hb0 dL_law_375 (by decide) (fun c_375 => ?_) (fun c_375 => ?_)
                      · replace hw := hw.1 c_375
                        exact mL_law_951 X hX hbl hbA post hret K18 hK18 M_372 L_372 v3 _ _ ls hw hW (lv_sub hl [0, 1, 2, 3] rfl)
                      · replace hw := hw.2 c_375
                        refine lv_iconst (v := (0 : Int32)) hx hb0 dL_law_378 (by decide) ?_
                        exact hret _ ls _ _ (0 : Int32) M_372 L_372 dL_law_379 rfl hw hW
                    · replace hw := hw.2 c_33_7
                      by_cases c_33_8 : a_33 = (8 : Int32)
                      · replace hw := hw.1 c_33_8
                        refine lv_tableIn (tgt := 380) (off := 347) hx hb0 dL_law_33 (by rw [c_33_8]; decide) (by rw [c_33_8]; decide) (by rw [c_33_8]; rfl) (by decide) ?_
                        refine lv_aload_n hx hb0 dL_law_380 rfl (lv_at hl 1 rfl) ?_
                        refine lv_aload_n hx hb0 dL_law_381 rfl (lv_at hl 0 rfl) ?_
                        refine lv_iload_n hx hb0 dL_law_382 rfl (lv_at hl 3 rfl) ?_
                        refine lv_iconst (v := (1 : Int32)) hx hb0 dL_law_383 (by decide) ?_
                        refine lv_iadd hx hb0 dL_law_384 ?_
                        obtain ⟨g_385, hw⟩ := hw
                        refine va_sld hx hb0 hX hbl hbA hW.2 g_385 dL_law_385 ?_
                        refine lv_aload_n hx hb0 dL_law_386 rfl (lv_at hl 0 rfl) ?_
                        refine lv_iload_n hx hb0 dL_law_387 rfl (lv_at hl 3 rfl) ?_
                        refine lv_iconst (v := (2 : Int32)) hx hb0 dL_law_388 (by decide) ?_
                        refine lv_iadd hx hb0 dL_law_389 ?_
                        obtain ⟨g_390, hw⟩ := hw
                        refine va_sld hx hb0 hX hbl hbA hW.2 g_390 dL_law_390 ?_
                        refine z_Vi X zO_0 zC6 zc_X8_behind zs_X8_behind zl_L_49 rfl ⟨rfl, rfl⟩ ⟨Nat.le_of_ble_eq_true rfl, Nat.le_of_ble_eq_true rfl⟩ (kX8_behind l D cy ad X.2.2.2.1 (xs (v3 + (1 : Int32)).toNatClampNeg) (xs (v3 + (2 : Int32)).toNatClampNeg)) hW hw hl.1 rfl rfl (Nat.le_of_ble_eq_true rfl) dL_law_391 (fun r_391 M_391 L_391 H_391 locs_391 hw hW => ?_)
                        refine lv_aload_n hx hb0 dL_law_394 rfl (lv_at hl 2 rfl) ?_
                        refine lv_aload_n hx hb0 dL_law_395 rfl (lv_at hl 0 rfl) ?_
                        refine lv_iload_n hx hb0 dL_law_396 rfl (lv_at hl 3 rfl) ?_
                        refine lv_iconst (v := (1 : Int32)) hx hb0 dL_law_397 (by decide) ?_
                        refine lv_iadd hx hb0 dL_law_398 ?_
                        obtain ⟨g_399, hw⟩ := hw
                        refine va_sld hx hb0 hX hbl hbA hW.2 g_399 dL_law_399 ?_
                        refine lv_aload_n hx hb0 dL_law_400 rfl (lv_at hl 0 rfl) ?_
                        refine lv_iload_n hx hb0 dL_law_401 rfl (lv_at hl 3 rfl) ?_
                        refine lv_iconst (v := (2 : Int32)) hx hb0 dL_law_402 (by decide) ?_
                        refine lv_iadd hx hb0 dL_law_403 ?_
                        obtain ⟨g_404, hw⟩ := hw
                        refine va_sld hx hb0 hX hbl hbA hW.2 g_404 dL_law_404 ?_
                        refine z_Vi X zO_42 zC7 zc_X9_behind zs_X9_behind zl_L_52 rfl ⟨rfl, rfl⟩ ⟨Nat.le_of_ble_eq_true rfl, Nat.le_of_ble_eq_true rfl⟩ (kX9_behind l D cy ad X.2.2.2.1 (xs (v3 + (1 : Int32)).toNatClampNeg) (xs (v3 + (2 : Int32)).toNatClampNeg)) hW hw hl.1 rfl rfl (Nat.le_of_ble_eq_true rfl) dL_law_405 (fun r_405 M_405 L_405 H_405 locs_405 hw hW => ?_)
                        refine lv_icmp_eq (tgt := 951) hx hb0 dL_law_408 (by decide) (fun c_408 => ?_) (fun c_408 => ?_)
                        · replace hw := hw.1 c_408
                          exact mL_law_951 X hX hbl hbA post hret K18 hK18 M_405 L_405 v3 _ _ ls hw hW (lv_sub hl [0, 1, 2, 3] rfl)
                        · replace hw := hw.2 c_408
                          refine lv_iconst (v := (0 : Int32)) hx hb0 dL_law_411 (by decide) ?_
                          exact hret _ ls _ _ (0 : Int32) M_405 L_405 dL_law_412 rfl hw hW
                      · replace hw := hw.2 c_33_8
                        by_cases c_33_9 : a_33 = (9 : Int32)
                        · replace hw := hw.1 c_33_9
                          refine lv_tableIn (tgt := 413) (off := 380) hx hb0 dL_law_33 (by rw [c_33_9]; decide) (by rw [c_33_9]; decide) (by rw [c_33_9]; rfl) (by decide) ?_
                          refine lv_aload_n hx hb0 dL_law_413 rfl (lv_at hl 1 rfl) ?_
                          refine lv_aload_n hx hb0 dL_law_414 rfl (lv_at hl 0 rfl) ?_
                          refine lv_iload_n hx hb0 dL_law_415 rfl (lv_at hl 3 rfl) ?_
                          refine lv_iconst (v := (1 : Int32)) hx hb0 dL_law_416 (by decide) ?_
                          refine lv_iadd hx hb0 dL_law_417 ?_
                          obtain ⟨g_418, hw⟩ := hw
                          refine va_sld hx hb0 hX hbl hbA hW.2 g_418 dL_law_418 ?_
                          refine lv_aload_n hx hb0 dL_law_419 rfl (lv_at hl 0 rfl) ?_
                          refine lv_iload_n hx hb0 dL_law_420 rfl (lv_at hl 3 rfl) ?_
                          refine lv_iconst (v := (2 : Int32)) hx hb0 dL_law_421 (by decide) ?_
                          refine lv_iadd hx hb0 dL_law_422 ?_
                          obtain ⟨g_423, hw⟩ := hw
                          refine va_sld hx hb0 hX hbl hbA hW.2 g_423 dL_law_423 ?_
                          refine z_Vi X zO_0 zC6 zc_X8_stands zs_X8_stands zl_L_53 rfl ⟨rfl, rfl⟩ ⟨Nat.le_of_ble_eq_true rfl, Nat.le_of_ble_eq_true rfl⟩ (kX8_stands l D cy ad X.2.2.2.1 (xs (v3 + (1 : Int32)).toNatClampNeg) (xs (v3 + (2 : Int32)).toNatClampNeg)) hW hw hl.1 rfl rfl (Nat.le_of_ble_eq_true rfl) dL_law_424 (fun r_424 M_424 L_424 H_424 locs_424 hw hW => ?_)
                          refine lv_aload_n hx hb0 dL_law_427 rfl (lv_at hl 2 rfl) ?_
                          refine lv_aload_n hx hb0 dL_law_428 rfl (lv_at hl 0 rfl) ?_
                          refine lv_iload_n hx hb0 dL_law_429 rfl (lv_at hl 3 rfl) ?_
                          refine lv_iconst (v := (1 : Int32)) hx hb0 dL_law_430 (by decide) ?_
                          refine lv_iadd hx hb0 dL_law_431 ?_
                          obtain ⟨g_432, hw⟩ := hw
                          refine va_sld hx hb0 hX hbl hbA hW.2 g_432 dL_law_432 ?_
                          refine lv_aload_n hx hb0 dL_law_433 rfl (lv_at hl 0 rfl) ?_
                          refine lv_iload_n hx hb0 dL_law_434 rfl (lv_at hl 3 rfl) ?_
                          refine lv_iconst (v := (2 : Int32)) hx hb0 dL_law_435 (by decide) ?_
                          refine lv_iadd hx hb0 dL_law_436 ?_
                          obtain ⟨g_437, hw⟩ := hw
                          refine va_sld hx hb0 hX hbl hbA hW.2 g_437 dL_law_437 ?_
                          refine z_Vi X zO_42 zC7 zc_X9_stands zs_X9_stands zl_L_56 rfl ⟨rfl, rfl⟩ ⟨Nat.le_of_ble_eq_true rfl, Nat.le_of_ble_eq_true rfl⟩ (kX9_stands l D cy ad X.2.2.2.1 (xs (v3 + (1 : Int32)).toNatClampNeg) (xs (v3 + (2 : Int32)).toNatClampNeg)) hW hw hl.1 rfl rfl (Nat.le_of_ble_eq_true rfl) dL_law_438 (fun r_438 M_438 L_438 H_438 locs_438 hw hW => ?_)
                          refine lv_icmp_eq (tgt := 951) hx hb0 dL_law_441 (by decide) (fun c_441 => ?_) (fun c_441 => ?_)
                          · replace hw := hw.1 c_441
                            exact mL_law_951 X hX hbl hbA post hret K18 hK18 M_438 L_438 v3 _ _ ls hw hW (lv_sub hl [0, 1, 2, 3] rfl)
                          · replace hw := hw.2 c_441
                            refine lv_iconst (v := (0 : Int32)) hx hb0 dL_law_444 (by decide) ?_
                            exact hret _ ls _ _ (0 : Int32) M_438 L_438 dL_law_445 rfl hw hW
                        · replace hw := hw.2 c_33_9
                          by_cases c_33_10 : a_33 = (10 : Int32)
                          · replace hw := hw.1 c_33_10
                            refine lv_tableIn (tgt := 446) (off := 413) hx hb0 dL_law_33 (by rw [c_33_10]; decide) (by rw [c_33_10]; decide) (by rw [c_33_10]; rfl) (by decide) ?_
                            refine lv_aload_n hx hb0 dL_law_446 rfl (lv_at hl 1 rfl) ?_
                            refine lv_aload_n hx hb0 dL_law_447 rfl (lv_at hl 0 rfl) ?_
                            refine lv_iload_n hx hb0 dL_law_448 rfl (lv_at hl 3 rfl) ?_
                            refine lv_iconst (v := (1 : Int32)) hx hb0 dL_law_449 (by decide) ?_
                            refine lv_iadd hx hb0 dL_law_450 ?_
                            obtain ⟨g_451, hw⟩ := hw
                            refine va_sld hx hb0 hX hbl hbA hW.2 g_451 dL_law_451 ?_
                            refine z_Vi X zO_0 zC6 zc_X8_posted zs_X8_posted zl_L_57 rfl ⟨rfl, rfl⟩ ⟨Nat.le_of_ble_eq_true rfl, Nat.le_of_ble_eq_true rfl⟩ (kX8_posted l D cy ad X.2.2.2.1 (xs (v3 + (1 : Int32)).toNatClampNeg)) hW hw hl.1 rfl rfl (Nat.le_of_ble_eq_true rfl) dL_law_452 (fun r_452 M_452 L_452 H_452 locs_452 hw hW => ?_)
                            refine lv_aload_n hx hb0 dL_law_455 rfl (lv_at hl 2 rfl) ?_
                            refine lv_aload_n hx hb0 dL_law_456 rfl (lv_at hl 0 rfl) ?_
                            refine lv_iload_n hx hb0 dL_law_457 rfl (lv_at hl 3 rfl) ?_
                            refine lv_iconst (v := (1 : Int32)) hx hb0 dL_law_458 (by decide) ?_
                            refine lv_iadd hx hb0 dL_law_459 ?_
                            obtain ⟨g_460, hw⟩ := hw
                            refine va_sld hx hb0 hX hbl hbA hW.2 g_460 dL_law_460 ?_
                            refine z_Vi X zO_42 zC7 zc_X9_posted zs_X9_posted zl_L_60 rfl ⟨rfl, rfl⟩ ⟨Nat.le_of_ble_eq_true rfl, Nat.le_of_ble_eq_true rfl⟩ (kX9_posted l D cy ad X.2.2.2.1 (xs (v3 + (1 : Int32)).toNatClampNeg)) hW hw hl.1 rfl rfl (Nat.le_of_ble_eq_true rfl) dL_law_461 (fun r_461 M_461 L_461 H_461 locs_461 hw hW => ?_)
                            refine lv_icmp_eq (tgt := 951) hx hb0 dL_law_464 (by decide) (fun c_464 => ?_) (fun c_464 => ?_)
                            · replace hw := hw.1 c_464
                              exact mL_law_951 X hX hbl hbA post hret K18 hK18 M_461 L_461 v3 _ _ ls hw hW (lv_sub hl [0, 1, 2, 3] rfl)
                            · replace hw := hw.2 c_464
                              refine lv_iconst (v := (0 : Int32)) hx hb0 dL_law_467 (by decide) ?_
                              exact hret _ ls _ _ (0 : Int32) M_461 L_461 dL_law_468 rfl hw hW
                          · replace hw := hw.2 c_33_10
                            by_cases c_33_11 : a_33 = (11 : Int32)
                            · replace hw := hw.1 c_33_11
                              refine lv_tableIn (tgt := 469) (off := 436) hx hb0 dL_law_33 (by rw [c_33_11]; decide) (by rw [c_33_11]; decide) (by rw [c_33_11]; rfl) (by decide) ?_
                              refine lv_aload_n hx hb0 dL_law_469 rfl (lv_at hl 1 rfl) ?_
                              refine z_Vi X zO_0 zC6 zc_X8_done zs_X8_done zl_L_61 rfl ⟨rfl, rfl⟩ ⟨Nat.le_of_ble_eq_true rfl, Nat.le_of_ble_eq_true rfl⟩ (kX8_done l D cy ad X.2.2.2.1) hW hw hl.1 rfl rfl (Nat.le_of_ble_eq_true rfl) dL_law_470 (fun r_470 M_470 L_470 H_470 locs_470 hw hW => ?_)
                              refine lv_aload_n hx hb0 dL_law_473 rfl (lv_at hl 2 rfl) ?_
                              refine z_Vi X zO_42 zC7 zc_X9_done zs_X9_done zl_L_64 rfl ⟨rfl, rfl⟩ ⟨Nat.le_of_ble_eq_true rfl, Nat.le_of_ble_eq_true rfl⟩ (kX9_done l D cy ad X.2.2.2.1) hW hw hl.1 rfl rfl (Nat.le_of_ble_eq_true rfl) dL_law_474 (fun r_474 M_474 L_474 H_474 locs_474 hw hW => ?_)
                              refine lv_icmp_eq (tgt := 951) hx hb0 dL_law_477 (by decide) (fun c_477 => ?_) (fun c_477 => ?_)
                              · replace hw := hw.1 c_477
                                exact mL_law_951 X hX hbl hbA post hret K18 hK18 M_474 L_474 v3 _ _ ls hw hW (lv_sub hl [0, 1, 2, 3] rfl)
                              · replace hw := hw.2 c_477
                                refine lv_iconst (v := (0 : Int32)) hx hb0 dL_law_480 (by decide) ?_
                                exact hret _ ls _ _ (0 : Int32) M_474 L_474 dL_law_481 rfl hw hW
                            · replace hw := hw.2 c_33_11
                              by_cases c_33_12 : a_33 = (12 : Int32)
                              · replace hw := hw.1 c_33_12
                                refine lv_tableIn (tgt := 482) (off := 449) hx hb0 dL_law_33 (by rw [c_33_12]; decide) (by rw [c_33_12]; decide) (by rw [c_33_12]; rfl) (by decide) ?_
                                refine lv_aload_n hx hb0 dL_law_482 rfl (lv_at hl 1 rfl) ?_
                                refine lv_aload_n hx hb0 dL_law_483 rfl (lv_at hl 0 rfl) ?_
                                refine lv_iload_n hx hb0 dL_law_484 rfl (lv_at hl 3 rfl) ?_
                                refine lv_iconst (v := (1 : Int32)) hx hb0 dL_law_485 (by decide) ?_
                                refine lv_iadd hx hb0 dL_law_486 ?_
                                obtain ⟨g_487, hw⟩ := hw
                                refine va_sld hx hb0 hX hbl hbA hW.2 g_487 dL_law_487 ?_
                                refine z_Vi X zO_0 zC6 zc_X8_says zs_X8_says zl_L_65 rfl ⟨rfl, rfl⟩ ⟨Nat.le_of_ble_eq_true rfl, Nat.le_of_ble_eq_true rfl⟩ (kX8_says l D cy ad X.2.2.2.1 (xs (v3 + (1 : Int32)).toNatClampNeg)) hW hw hl.1 rfl rfl (Nat.le_of_ble_eq_true rfl) dL_law_488 (fun r_488 M_488 L_488 H_488 locs_488 hw hW => ?_)
                                refine lv_aload_n hx hb0 dL_law_491 rfl (lv_at hl 2 rfl) ?_
                                refine lv_aload_n hx hb0 dL_law_492 rfl (lv_at hl 0 rfl) ?_
                                refine lv_iload_n hx hb0 dL_law_493 rfl (lv_at hl 3 rfl) ?_
                                refine lv_iconst (v := (1 : Int32)) hx hb0 dL_law_494 (by decide) ?_
                                refine lv_iadd hx hb0 dL_law_495 ?_
                                obtain ⟨g_496, hw⟩ := hw
                                refine va_sld hx hb0 hX hbl hbA hW.2 g_496 dL_law_496 ?_
                                refine z_Vi X zO_42 zC7 zc_X9_says zs_X9_says zl_L_68 rfl ⟨rfl, rfl⟩ ⟨Nat.le_of_ble_eq_true rfl, Nat.le_of_ble_eq_true rfl⟩ (kX9_says l D cy ad X.2.2.2.1 (xs (v3 + (1 : Int32)).toNatClampNeg)) hW hw hl.1 rfl rfl (Nat.le_of_ble_eq_true rfl) dL_law_497 (fun r_497 M_497 L_497 H_497 locs_497 hw hW => ?_)
                                refine lv_icmp_eq (tgt := 951) hx hb0 dL_law_500 (by decide) (fun c_500 => ?_) (fun c_500 => ?_)
                                · replace hw := hw.1 c_500
                                  exact mL_law_951 X hX hbl hbA post hret K18 hK18 M_497 L_497 v3 _ _ ls hw hW (lv_sub hl [0, 1, 2, 3] rfl)
                                · replace hw := hw.2 c_500
                                  refine lv_iconst (v := (0 : Int32)) hx hb0 dL_law_503 (by decide) ?_
                                  exact hret _ ls _ _ (0 : Int32) M_497 L_497 dL_law_504 rfl hw hW
                              · replace hw := hw.2 c_33_12
                                by_cases c_33_13 : a_33 = (13 : Int32)
                                · replace hw := hw.1 c_33_13
                                  refine lv_tableIn (tgt := 505) (off := 472) hx hb0 dL_law_33 (by rw [c_33_13]; decide) (by rw [c_33_13]; decide) (by rw [c_33_13]; rfl) (by decide) ?_
                                  refine lv_aload_n hx hb0 dL_law_505 rfl (lv_at hl 1 rfl) ?_
                                  refine lv_aload_n hx hb0 dL_law_506 rfl (lv_at hl 0 rfl) ?_
                                  refine lv_iload_n hx hb0 dL_law_507 rfl (lv_at hl 3 rfl) ?_
                                  refine lv_iconst (v := (1 : Int32)) hx hb0 dL_law_508 (by decide) ?_
                                  refine lv_iadd hx hb0 dL_law_509 ?_
                                  obtain ⟨g_510, hw⟩ := hw
                                  refine va_sld hx hb0 hX hbl hbA hW.2 g_510 dL_law_510 ?_
                                  refine lv_aload_n hx hb0 dL_law_511 rfl (lv_at hl 0 rfl) ?_
                                  refine lv_iload_n hx hb0 dL_law_512 rfl (lv_at hl 3 rfl) ?_
                                  refine lv_iconst (v := (2 : Int32)) hx hb0 dL_law_513 (by decide) ?_
                                  refine lv_iadd hx hb0 dL_law_514 ?_
                                  obtain ⟨g_515, hw⟩ := hw
                                  refine va_sld hx hb0 hX hbl hbA hW.2 g_515 dL_law_515 ?_
                                  refine lv_aload_n hx hb0 dL_law_516 rfl (lv_at hl 0 rfl) ?_
                                  refine lv_iload_n hx hb0 dL_law_517 rfl (lv_at hl 3 rfl) ?_
                                  refine lv_iconst (v := (3 : Int32)) hx hb0 dL_law_518 (by decide) ?_
                                  refine lv_iadd hx hb0 dL_law_519 ?_
                                  obtain ⟨g_520, hw⟩ := hw
                                  refine va_sld hx hb0 hX hbl hbA hW.2 g_520 dL_law_520 ?_
                                  refine lv_aload_n hx hb0 dL_law_521 rfl (lv_at hl 0 rfl) ?_
                                  refine lv_iload_n hx hb0 dL_law_522 rfl (lv_at hl 3 rfl) ?_
                                  refine lv_iconst (v := (4 : Int32)) hx hb0 dL_law_523 (by decide) ?_
                                  refine lv_iadd hx hb0 dL_law_524 ?_
                                  obtain ⟨g_525, hw⟩ := hw
                                  refine va_sld hx hb0 hX hbl hbA hW.2 g_525 dL_law_525 ?_
                                  refine z_Vl X zO_0 zC6 zc_X8_grew zs_X8_grew zl_L_69 rfl ⟨rfl, rfl⟩ ⟨Nat.le_of_ble_eq_true rfl, Nat.le_of_ble_eq_true rfl⟩ (kX8_grew l D cy ad X.2.2.2.1 (xs (v3 + (1 : Int32)).toNatClampNeg) (xs (v3 + (2 : Int32)).toNatClampNeg) (xs (v3 + (3 : Int32)).toNatClampNeg) (xs (v3 + (4 : Int32)).toNatClampNeg)) hW hw hl.1 rfl rfl (Nat.le_of_ble_eq_true rfl) dL_law_526 (fun r_526 M_526 L_526 H_526 locs_526 hw hW => ?_)
                                  refine lv_aload_n hx hb0 dL_law_529 rfl (lv_at hl 2 rfl) ?_
                                  refine lv_aload_n hx hb0 dL_law_530 rfl (lv_at hl 0 rfl) ?_
                                  refine lv_iload_n hx hb0 dL_law_531 rfl (lv_at hl 3 rfl) ?_
                                  refine lv_iconst (v := (1 : Int32)) hx hb0 dL_law_532 (by decide) ?_
                                  refine lv_iadd hx hb0 dL_law_533 ?_
                                  obtain ⟨g_534, hw⟩ := hw
                                  refine va_sld hx hb0 hX hbl hbA hW.2 g_534 dL_law_534 ?_
                                  refine lv_aload_n hx hb0 dL_law_535 rfl (lv_at hl 0 rfl) ?_
                                  refine lv_iload_n hx hb0 dL_law_536 rfl (lv_at hl 3 rfl) ?_
                                  refine lv_iconst (v := (2 : Int32)) hx hb0 dL_law_537 (by decide) ?_
                                  refine lv_iadd hx hb0 dL_law_538 ?_
                                  obtain ⟨g_539, hw⟩ := hw
                                  refine va_sld hx hb0 hX hbl hbA hW.2 g_539 dL_law_539 ?_
                                  refine lv_aload_n hx hb0 dL_law_540 rfl (lv_at hl 0 rfl) ?_
                                  refine lv_iload_n hx hb0 dL_law_541 rfl (lv_at hl 3 rfl) ?_
                                  refine lv_iconst (v := (3 : Int32)) hx hb0 dL_law_542 (by decide) ?_
                                  refine lv_iadd hx hb0 dL_law_543 ?_
                                  obtain ⟨g_544, hw⟩ := hw
                                  refine va_sld hx hb0 hX hbl hbA hW.2 g_544 dL_law_544 ?_
                                  refine lv_aload_n hx hb0 dL_law_545 rfl (lv_at hl 0 rfl) ?_
                                  refine lv_iload_n hx hb0 dL_law_546 rfl (lv_at hl 3 rfl) ?_
                                  refine lv_iconst (v := (4 : Int32)) hx hb0 dL_law_547 (by decide) ?_
                                  refine lv_iadd hx hb0 dL_law_548 ?_
                                  obtain ⟨g_549, hw⟩ := hw
                                  refine va_sld hx hb0 hX hbl hbA hW.2 g_549 dL_law_549 ?_
                                  refine z_Vl X zO_42 zC7 zc_X9_grew zs_X9_grew zl_L_73 rfl ⟨rfl, rfl⟩ ⟨Nat.le_of_ble_eq_true rfl, Nat.le_of_ble_eq_true rfl⟩ (kX9_grew l D cy ad X.2.2.2.1 (xs (v3 + (1 : Int32)).toNatClampNeg) (xs (v3 + (2 : Int32)).toNatClampNeg) (xs (v3 + (3 : Int32)).toNatClampNeg) (xs (v3 + (4 : Int32)).toNatClampNeg)) hW hw hl.1 rfl rfl (Nat.le_of_ble_eq_true rfl) dL_law_550 (fun r_550 M_550 L_550 H_550 locs_550 hw hW => ?_)
                                  refine W.lcmp hx hb0 dL_law_553 ?_
                                  refine lv_if_eq (tgt := 951) hx hb0 dL_law_554 (by decide) (fun c_554 => ?_) (fun c_554 => ?_)
                                  · replace hw := hw.1 c_554
                                    exact mL_law_951 X hX hbl hbA post hret K18 hK18 M_550 L_550 v3 _ _ ls hw hW (lv_sub hl [0, 1, 2, 3] rfl)
                                  · replace hw := hw.2 c_554
                                    refine lv_iconst (v := (0 : Int32)) hx hb0 dL_law_557 (by decide) ?_
                                    exact hret _ ls _ _ (0 : Int32) M_550 L_550 dL_law_558 rfl hw hW
                                · replace hw := hw.2 c_33_13
                                  by_cases c_33_14 : a_33 = (14 : Int32)
                                  · replace hw := hw.1 c_33_14
                                    refine lv_tableIn (tgt := 559) (off := 526) hx hb0 dL_law_33 (by rw [c_33_14]; decide) (by rw [c_33_14]; decide) (by rw [c_33_14]; rfl) (by decide) ?_
                                    refine lv_aload_n hx hb0 dL_law_559 rfl (lv_at hl 1 rfl) ?_
                                    refine lv_aload_n hx hb0 dL_law_560 rfl (lv_at hl 0 rfl) ?_
                                    refine lv_iload_n hx hb0 dL_law_561 rfl (lv_at hl 3 rfl) ?_
                                    refine lv_iconst (v := (1 : Int32)) hx hb0 dL_law_562 (by decide) ?_
                                    refine lv_iadd hx hb0 dL_law_563 ?_
                                    obtain ⟨g_564, hw⟩ := hw
                                    refine va_sld hx hb0 hX hbl hbA hW.2 g_564 dL_law_564 ?_
                                    refine lv_aload_n hx hb0 dL_law_565 rfl (lv_at hl 0 rfl) ?_
                                    refine lv_iload_n hx hb0 dL_law_566 rfl (lv_at hl 3 rfl) ?_
                                    refine lv_iconst (v := (2 : Int32)) hx hb0 dL_law_567 (by decide) ?_
                                    refine lv_iadd hx hb0 dL_law_568 ?_
                                    obtain ⟨g_569, hw⟩ := hw
                                    refine va_sld hx hb0 hX hbl hbA hW.2 g_569 dL_law_569 ?_
                                    refine z_Vi X zO_0 zC6 zc_X8_soon zs_X8_soon zl_L_74 rfl ⟨rfl, rfl⟩ ⟨Nat.le_of_ble_eq_true rfl, Nat.le_of_ble_eq_true rfl⟩ (kX8_soon l D cy ad X.2.2.2.1 (xs (v3 + (1 : Int32)).toNatClampNeg) (xs (v3 + (2 : Int32)).toNatClampNeg)) hW hw hl.1 rfl rfl (Nat.le_of_ble_eq_true rfl) dL_law_570 (fun r_570 M_570 L_570 H_570 locs_570 hw hW => ?_)
                                    refine lv_aload_n hx hb0 dL_law_573 rfl (lv_at hl 2 rfl) ?_
                                    refine lv_aload_n hx hb0 dL_law_574 rfl (lv_at hl 0 rfl) ?_
                                    refine lv_iload_n hx hb0 dL_law_575 rfl (lv_at hl 3 rfl) ?_
                                    refine lv_iconst (v := (1 : Int32)) hx hb0 dL_law_576 (by decide) ?_
                                    refine lv_iadd hx hb0 dL_law_577 ?_
                                    obtain ⟨g_578, hw⟩ := hw
                                    refine va_sld hx hb0 hX hbl hbA hW.2 g_578 dL_law_578 ?_
                                    refine lv_aload_n hx hb0 dL_law_579 rfl (lv_at hl 0 rfl) ?_
                                    refine lv_iload_n hx hb0 dL_law_580 rfl (lv_at hl 3 rfl) ?_
                                    refine lv_iconst (v := (2 : Int32)) hx hb0 dL_law_581 (by decide) ?_
                                    refine lv_iadd hx hb0 dL_law_582 ?_
                                    obtain ⟨g_583, hw⟩ := hw
                                    refine va_sld hx hb0 hX hbl hbA hW.2 g_583 dL_law_583 ?_
                                    refine z_Vi X zO_42 zC7 zc_X9_soon zs_X9_soon zl_L_77 rfl ⟨rfl, rfl⟩ ⟨Nat.le_of_ble_eq_true rfl, Nat.le_of_ble_eq_true rfl⟩ (kX9_soon l D cy ad X.2.2.2.1 (xs (v3 + (1 : Int32)).toNatClampNeg) (xs (v3 + (2 : Int32)).toNatClampNeg)) hW hw hl.1 rfl rfl (Nat.le_of_ble_eq_true rfl) dL_law_584 (fun r_584 M_584 L_584 H_584 locs_584 hw hW => ?_)
                                    refine lv_icmp_eq (tgt := 951) hx hb0 dL_law_587 (by decide) (fun c_587 => ?_) (fun c_587 => ?_)
                                    · replace hw := hw.1 c_587
                                      exact mL_law_951 X hX hbl hbA post hret K18 hK18 M_584 L_584 v3 _ _ ls hw hW (lv_sub hl [0, 1, 2, 3] rfl)
                                    · replace hw := hw.2 c_587
                                      refine lv_iconst (v := (0 : Int32)) hx hb0 dL_law_590 (by decide) ?_
                                      exact hret _ ls _ _ (0 : Int32) M_584 L_584 dL_law_591 rfl hw hW
                                  · replace hw := hw.2 c_33_14
                                    by_cases c_33_15 : a_33 = (15 : Int32)
                                    · replace hw := hw.1 c_33_15
                                      refine lv_tableIn (tgt := 592) (off := 559) hx hb0 dL_law_33 (by rw [c_33_15]; decide) (by rw [c_33_15]; decide) (by rw [c_33_15]; rfl) (by decide) ?_
                                      refine lv_aload_n hx hb0 dL_law_592 rfl (lv_at hl 1 rfl) ?_
                                      refine lv_aload_n hx hb0 dL_law_593 rfl (lv_at hl 0 rfl) ?_
                                      refine lv_iload_n hx hb0 dL_law_594 rfl (lv_at hl 3 rfl) ?_
                                      refine lv_iconst (v := (1 : Int32)) hx hb0 dL_law_595 (by decide) ?_
                                      refine lv_iadd hx hb0 dL_law_596 ?_
                                      obtain ⟨g_597, hw⟩ := hw
                                      refine va_sld hx hb0 hX hbl hbA hW.2 g_597 dL_law_597 ?_
                                      refine z_Vi X zO_0 zC6 zc_X8_most zs_X8_most zl_L_78 rfl ⟨rfl, rfl⟩ ⟨Nat.le_of_ble_eq_true rfl, Nat.le_of_ble_eq_true rfl⟩ (kX8_most l D cy ad X.2.2.2.1 (xs (v3 + (1 : Int32)).toNatClampNeg)) hW hw hl.1 rfl rfl (Nat.le_of_ble_eq_true rfl) dL_law_598 (fun r_598 M_598 L_598 H_598 locs_598 hw hW => ?_)
                                      refine lv_aload_n hx hb0 dL_law_601 rfl (lv_at hl 2 rfl) ?_
                                      refine lv_aload_n hx hb0 dL_law_602 rfl (lv_at hl 0 rfl) ?_
                                      refine lv_iload_n hx hb0 dL_law_603 rfl (lv_at hl 3 rfl) ?_
                                      refine lv_iconst (v := (1 : Int32)) hx hb0 dL_law_604 (by decide) ?_
                                      refine lv_iadd hx hb0 dL_law_605 ?_
                                      obtain ⟨g_606, hw⟩ := hw
                                      refine va_sld hx hb0 hX hbl hbA hW.2 g_606 dL_law_606 ?_
                                      refine z_Vi X zO_42 zC7 zc_X9_most zs_X9_most zl_L_81 rfl ⟨rfl, rfl⟩ ⟨Nat.le_of_ble_eq_true rfl, Nat.le_of_ble_eq_true rfl⟩ (kX9_most l D cy ad X.2.2.2.1 (xs (v3 + (1 : Int32)).toNatClampNeg)) hW hw hl.1 rfl rfl (Nat.le_of_ble_eq_true rfl) dL_law_607 (fun r_607 M_607 L_607 H_607 locs_607 hw hW => ?_)
                                      refine lv_icmp_eq (tgt := 951) hx hb0 dL_law_610 (by decide) (fun c_610 => ?_) (fun c_610 => ?_)
                                      · replace hw := hw.1 c_610
                                        exact mL_law_951 X hX hbl hbA post hret K18 hK18 M_607 L_607 v3 _ _ ls hw hW (lv_sub hl [0, 1, 2, 3] rfl)
                                      · replace hw := hw.2 c_610
                                        refine lv_iconst (v := (0 : Int32)) hx hb0 dL_law_613 (by decide) ?_
                                        exact hret _ ls _ _ (0 : Int32) M_607 L_607 dL_law_614 rfl hw hW
                                    · replace hw := hw.2 c_33_15
                                      by_cases c_33_16 : a_33 = (16 : Int32)
                                      · replace hw := hw.1 c_33_16
                                        refine lv_tableIn (tgt := 615) (off := 582) hx hb0 dL_law_33 (by rw [c_33_16]; decide) (by rw [c_33_16]; decide) (by rw [c_33_16]; rfl) (by decide) ?_
                                        refine lv_aload_n hx hb0 dL_law_615 rfl (lv_at hl 1 rfl) ?_
                                        refine lv_aload_n hx hb0 dL_law_616 rfl (lv_at hl 0 rfl) ?_
                                        refine lv_iload_n hx hb0 dL_law_617 rfl (lv_at hl 3 rfl) ?_
                                        refine lv_iconst (v := (1 : Int32)) hx hb0 dL_law_618 (by decide) ?_
                                        refine lv_iadd hx hb0 dL_law_619 ?_
                                        obtain ⟨g_620, hw⟩ := hw
                                        refine va_sld hx hb0 hX hbl hbA hW.2 g_620 dL_law_620 ?_
                                        refine z_Vi X zO_0 zC6 zc_X8_patch zs_X8_patch zl_L_82 rfl ⟨rfl, rfl⟩ ⟨Nat.le_of_ble_eq_true rfl, Nat.le_of_ble_eq_true rfl⟩ (kX8_patch l D cy ad X.2.2.2.1 (xs (v3 + (1 : Int32)).toNatClampNeg)) hW hw hl.1 rfl rfl (Nat.le_of_ble_eq_true rfl) dL_law_621 (fun r_621 M_621 L_621 H_621 locs_621 hw hW => ?_)
                                        refine lv_aload_n hx hb0 dL_law_624 rfl (lv_at hl 2 rfl) ?_
                                        refine lv_aload_n hx hb0 dL_law_625 rfl (lv_at hl 0 rfl) ?_
                                        refine lv_iload_n hx hb0 dL_law_626 rfl (lv_at hl 3 rfl) ?_
                                        refine lv_iconst (v := (1 : Int32)) hx hb0 dL_law_627 (by decide) ?_
                                        refine lv_iadd hx hb0 dL_law_628 ?_
                                        obtain ⟨g_629, hw⟩ := hw
                                        refine va_sld hx hb0 hX hbl hbA hW.2 g_629 dL_law_629 ?_
                                        refine z_Vi X zO_42 zC7 zc_X9_patch zs_X9_patch zl_L_85 rfl ⟨rfl, rfl⟩ ⟨Nat.le_of_ble_eq_true rfl, Nat.le_of_ble_eq_true rfl⟩ (kX9_patch l D cy ad X.2.2.2.1 (xs (v3 + (1 : Int32)).toNatClampNeg)) hW hw hl.1 rfl rfl (Nat.le_of_ble_eq_true rfl) dL_law_630 (fun r_630 M_630 L_630 H_630 locs_630 hw hW => ?_)
                                        refine lv_icmp_eq (tgt := 951) hx hb0 dL_law_633 (by decide) (fun c_633 => ?_) (fun c_633 => ?_)
                                        · replace hw := hw.1 c_633
                                          exact mL_law_951 X hX hbl hbA post hret K18 hK18 M_630 L_630 v3 _ _ ls hw hW (lv_sub hl [0, 1, 2, 3] rfl)
                                        · replace hw := hw.2 c_633
                                          refine lv_iconst (v := (0 : Int32)) hx hb0 dL_law_636 (by decide) ?_
                                          exact hret _ ls _ _ (0 : Int32) M_630 L_630 dL_law_637 rfl hw hW
                                      · replace hw := hw.2 c_33_16
                                        by_cases c_33_17 : a_33 = (17 : Int32)
                                        · replace hw := hw.1 c_33_17
                                          refine lv_tableIn (tgt := 638) (off := 605) hx hb0 dL_law_33 (by rw [c_33_17]; decide) (by rw [c_33_17]; decide) (by rw [c_33_17]; rfl) (by decide) ?_
                                          refine lv_aload_n hx hb0 dL_law_638 rfl (lv_at hl 1 rfl) ?_
                                          refine lv_aload_n hx hb0 dL_law_639 rfl (lv_at hl 0 rfl) ?_
                                          refine lv_iload_n hx hb0 dL_law_640 rfl (lv_at hl 3 rfl) ?_
                                          refine lv_iconst (v := (1 : Int32)) hx hb0 dL_law_641 (by decide) ?_
                                          refine lv_iadd hx hb0 dL_law_642 ?_
                                          obtain ⟨g_643, hw⟩ := hw
                                          refine va_sld hx hb0 hX hbl hbA hW.2 g_643 dL_law_643 ?_
                                          refine lv_aload_n hx hb0 dL_law_644 rfl (lv_at hl 0 rfl) ?_
                                          refine lv_iload_n hx hb0 dL_law_645 rfl (lv_at hl 3 rfl) ?_
                                          refine lv_iconst (v := (2 : Int32)) hx hb0 dL_law_646 (by decide) ?_
                                          refine lv_iadd hx hb0 dL_law_647 ?_
                                          obtain ⟨g_648, hw⟩ := hw
                                          refine va_sld hx hb0 hX hbl hbA hW.2 g_648 dL_law_648 ?_
                                          refine z_Vi X zO_0 zC6 zc_X8_seen zs_X8_seen zl_L_86 rfl ⟨rfl, rfl⟩ ⟨Nat.le_of_ble_eq_true rfl, Nat.le_of_ble_eq_true rfl⟩ (kX8_seen l D cy ad X.2.2.2.1 (xs (v3 + (1 : Int32)).toNatClampNeg) (xs (v3 + (2 : Int32)).toNatClampNeg)) hW hw hl.1 rfl rfl (Nat.le_of_ble_eq_true rfl) dL_law_649 (fun r_649 M_649 L_649 H_649 locs_649 hw hW => ?_)
                                          refine lv_aload_n hx hb0 dL_law_652 rfl (lv_at hl 2 rfl) ?_
                                          refine lv_aload_n hx hb0 dL_law_653 rfl (lv_at hl 0 rfl) ?_
                                          refine lv_iload_n hx hb0 dL_law_654 rfl (lv_at hl 3 rfl) ?_
                                          refine lv_iconst (v := (1 : Int32)) hx hb0 dL_law_655 (by decide) ?_
                                          refine lv_iadd hx hb0 dL_law_656 ?_
                                          obtain ⟨g_657, hw⟩ := hw
                                          refine va_sld hx hb0 hX hbl hbA hW.2 g_657 dL_law_657 ?_
                                          refine lv_aload_n hx hb0 dL_law_658 rfl (lv_at hl 0 rfl) ?_
                                          refine lv_iload_n hx hb0 dL_law_659 rfl (lv_at hl 3 rfl) ?_
                                          refine lv_iconst (v := (2 : Int32)) hx hb0 dL_law_660 (by decide) ?_
                                          refine lv_iadd hx hb0 dL_law_661 ?_
                                          obtain ⟨g_662, hw⟩ := hw
                                          refine va_sld hx hb0 hX hbl hbA hW.2 g_662 dL_law_662 ?_
                                          refine z_Vi X zO_42 zC7 zc_X9_seen zs_X9_seen zl_L_89 rfl ⟨rfl, rfl⟩ ⟨Nat.le_of_ble_eq_true rfl, Nat.le_of_ble_eq_true rfl⟩ (kX9_seen l D cy ad X.2.2.2.1 (xs (v3 + (1 : Int32)).toNatClampNeg) (xs (v3 + (2 : Int32)).toNatClampNeg)) hW hw hl.1 rfl rfl (Nat.le_of_ble_eq_true rfl) dL_law_663 (fun r_663 M_663 L_663 H_663 locs_663 hw hW => ?_)
                                          refine lv_icmp_eq (tgt := 951) hx hb0 dL_law_666 (by decide) (fun c_666 => ?_) (fun c_666 => ?_)
                                          · replace hw := hw.1 c_666
                                            exact mL_law_951 X hX hbl hbA post hret K18 hK18 M_663 L_663 v3 _ _ ls hw hW (lv_sub hl [0, 1, 2, 3] rfl)
                                          · replace hw := hw.2 c_666
                                            refine lv_iconst (v := (0 : Int32)) hx hb0 dL_law_669 (by decide) ?_
                                            exact hret _ ls _ _ (0 : Int32) M_663 L_663 dL_law_670 rfl hw hW
                                        · replace hw := hw.2 c_33_17
                                          by_cases c_33_18 : a_33 = (18 : Int32)
                                          · replace hw := hw.1 c_33_18
                                            refine lv_tableIn (tgt := 671) (off := 638) hx hb0 dL_law_33 (by rw [c_33_18]; decide) (by rw [c_33_18]; decide) (by rw [c_33_18]; rfl) (by decide) ?_
                                            refine lv_aload_n hx hb0 dL_law_671 rfl (lv_at hl 1 rfl) ?_
                                            refine z_Vi X zO_0 zC6 zc_X8_forget zs_X8_forget zl_L_90 rfl ⟨rfl, rfl⟩ ⟨Nat.le_of_ble_eq_true rfl, Nat.le_of_ble_eq_true rfl⟩ (kX8_forget l D cy ad X.2.2.2.1) hW hw hl.1 rfl rfl (Nat.le_of_ble_eq_true rfl) dL_law_672 (fun r_672 M_672 L_672 H_672 locs_672 hw hW => ?_)
                                            refine lv_aload_n hx hb0 dL_law_675 rfl (lv_at hl 2 rfl) ?_
                                            refine z_Vi X zO_42 zC7 zc_X9_forget zs_X9_forget zl_L_93 rfl ⟨rfl, rfl⟩ ⟨Nat.le_of_ble_eq_true rfl, Nat.le_of_ble_eq_true rfl⟩ (kX9_forget l D cy ad X.2.2.2.1) hW hw hl.1 rfl rfl (Nat.le_of_ble_eq_true rfl) dL_law_676 (fun r_676 M_676 L_676 H_676 locs_676 hw hW => ?_)
                                            refine lv_icmp_eq (tgt := 951) hx hb0 dL_law_679 (by decide) (fun c_679 => ?_) (fun c_679 => ?_)
                                            · replace hw := hw.1 c_679
                                              exact mL_law_951 X hX hbl hbA post hret K18 hK18 M_676 L_676 v3 _ _ ls hw hW (lv_sub hl [0, 1, 2, 3] rfl)
                                            · replace hw := hw.2 c_679
                                              refine lv_iconst (v := (0 : Int32)) hx hb0 dL_law_682 (by decide) ?_
                                              exact hret _ ls _ _ (0 : Int32) M_676 L_676 dL_law_683 rfl hw hW
                                          · replace hw := hw.2 c_33_18
                                            by_cases c_33_19 : a_33 = (19 : Int32)
                                            · replace hw := hw.1 c_33_19
                                              refine lv_tableIn (tgt := 684) (off := 651) hx hb0 dL_law_33 (by rw [c_33_19]; decide) (by rw [c_33_19]; decide) (by rw [c_33_19]; rfl) (by decide) ?_
                                              refine lv_aload_n hx hb0 dL_law_684 rfl (lv_at hl 1 rfl) ?_
                                              refine lv_aload_n hx hb0 dL_law_685 rfl (lv_at hl 0 rfl) ?_
                                              refine lv_iload_n hx hb0 dL_law_686 rfl (lv_at hl 3 rfl) ?_
                                              refine lv_iconst (v := (1 : Int32)) hx hb0 dL_law_687 (by decide) ?_
                                              refine lv_iadd hx hb0 dL_law_688 ?_
                                              obtain ⟨g_689, hw⟩ := hw
                                              refine va_sld hx hb0 hX hbl hbA hW.2 g_689 dL_law_689 ?_
                                              refine z_Vi X zO_0 zC6 zc_X8_laws zs_X8_laws zl_L_94 rfl ⟨rfl, rfl⟩ ⟨Nat.le_of_ble_eq_true rfl, Nat.le_of_ble_eq_true rfl⟩ (kX8_laws l D cy ad X.2.2.2.1 (xs (v3 + (1 : Int32)).toNatClampNeg)) hW hw hl.1 rfl rfl (Nat.le_of_ble_eq_true rfl) dL_law_690 (fun r_690 M_690 L_690 H_690 locs_690 hw hW => ?_)
                                              refine lv_aload_n hx hb0 dL_law_693 rfl (lv_at hl 2 rfl) ?_
                                              refine lv_aload_n hx hb0 dL_law_694 rfl (lv_at hl 0 rfl) ?_
                                              refine lv_iload_n hx hb0 dL_law_695 rfl (lv_at hl 3 rfl) ?_
                                              refine lv_iconst (v := (1 : Int32)) hx hb0 dL_law_696 (by decide) ?_
                                              refine lv_iadd hx hb0 dL_law_697 ?_
                                              obtain ⟨g_698, hw⟩ := hw
                                              refine va_sld hx hb0 hX hbl hbA hW.2 g_698 dL_law_698 ?_
                                              refine z_Vi X zO_42 zC7 zc_X9_laws zs_X9_laws zl_L_97 rfl ⟨rfl, rfl⟩ ⟨Nat.le_of_ble_eq_true rfl, Nat.le_of_ble_eq_true rfl⟩ (kX9_laws l D cy ad X.2.2.2.1 (xs (v3 + (1 : Int32)).toNatClampNeg)) hW hw hl.1 rfl rfl (Nat.le_of_ble_eq_true rfl) dL_law_699 (fun r_699 M_699 L_699 H_699 locs_699 hw hW => ?_)
                                              refine lv_icmp_eq (tgt := 951) hx hb0 dL_law_702 (by decide) (fun c_702 => ?_) (fun c_702 => ?_)
                                              · replace hw := hw.1 c_702
                                                exact mL_law_951 X hX hbl hbA post hret K18 hK18 M_699 L_699 v3 _ _ ls hw hW (lv_sub hl [0, 1, 2, 3] rfl)
                                              · replace hw := hw.2 c_702
                                                refine lv_iconst (v := (0 : Int32)) hx hb0 dL_law_705 (by decide) ?_
                                                exact hret _ ls _ _ (0 : Int32) M_699 L_699 dL_law_706 rfl hw hW
                                            · replace hw := hw.2 c_33_19
                                              by_cases c_33_20 : a_33 = (20 : Int32)
                                              · replace hw := hw.1 c_33_20
                                                refine lv_tableIn (tgt := 707) (off := 674) hx hb0 dL_law_33 (by rw [c_33_20]; decide) (by rw [c_33_20]; decide) (by rw [c_33_20]; rfl) (by decide) ?_
                                                refine lv_aload_n hx hb0 dL_law_707 rfl (lv_at hl 1 rfl) ?_
                                                refine lv_aload_n hx hb0 dL_law_708 rfl (lv_at hl 0 rfl) ?_
                                                refine lv_iload_n hx hb0 dL_law_709 rfl (lv_at hl 3 rfl) ?_
                                                refine lv_iconst (v := (1 : Int32)) hx hb0 dL_law_710 (by decide) ?_
                                                refine lv_iadd hx hb0 dL_law_711 ?_
                                                obtain ⟨g_712, hw⟩ := hw
                                                refine va_sld hx hb0 hX hbl hbA hW.2 g_712 dL_law_712 ?_
                                                refine z_Vi X zO_0 zC6 zc_X8_look zs_X8_look zl_L_98 rfl ⟨rfl, rfl⟩ ⟨Nat.le_of_ble_eq_true rfl, Nat.le_of_ble_eq_true rfl⟩ (kX8_look l D cy ad X.2.2.2.1 (xs (v3 + (1 : Int32)).toNatClampNeg)) hW hw hl.1 rfl rfl (Nat.le_of_ble_eq_true rfl) dL_law_713 (fun r_713 M_713 L_713 H_713 locs_713 hw hW => ?_)
                                                refine lv_aload_n hx hb0 dL_law_716 rfl (lv_at hl 2 rfl) ?_
                                                refine lv_aload_n hx hb0 dL_law_717 rfl (lv_at hl 0 rfl) ?_
                                                refine lv_iload_n hx hb0 dL_law_718 rfl (lv_at hl 3 rfl) ?_
                                                refine lv_iconst (v := (1 : Int32)) hx hb0 dL_law_719 (by decide) ?_
                                                refine lv_iadd hx hb0 dL_law_720 ?_
                                                obtain ⟨g_721, hw⟩ := hw
                                                refine va_sld hx hb0 hX hbl hbA hW.2 g_721 dL_law_721 ?_
                                                refine z_Vi X zO_42 zC7 zc_X9_look zs_X9_look zl_L_101 rfl ⟨rfl, rfl⟩ ⟨Nat.le_of_ble_eq_true rfl, Nat.le_of_ble_eq_true rfl⟩ (kX9_look l D cy ad X.2.2.2.1 (xs (v3 + (1 : Int32)).toNatClampNeg)) hW hw hl.1 rfl rfl (Nat.le_of_ble_eq_true rfl) dL_law_722 (fun r_722 M_722 L_722 H_722 locs_722 hw hW => ?_)
                                                refine lv_icmp_eq (tgt := 951) hx hb0 dL_law_725 (by decide) (fun c_725 => ?_) (fun c_725 => ?_)
                                                · replace hw := hw.1 c_725
                                                  exact mL_law_951 X hX hbl hbA post hret K18 hK18 M_722 L_722 v3 _ _ ls hw hW (lv_sub hl [0, 1, 2, 3] rfl)
                                                · replace hw := hw.2 c_725
                                                  refine lv_iconst (v := (0 : Int32)) hx hb0 dL_law_728 (by decide) ?_
                                                  exact hret _ ls _ _ (0 : Int32) M_722 L_722 dL_law_729 rfl hw hW
                                              · replace hw := hw.2 c_33_20
                                                by_cases c_33_21 : a_33 = (21 : Int32)
                                                · replace hw := hw.1 c_33_21
                                                  refine lv_tableIn (tgt := 730) (off := 697) hx hb0 dL_law_33 (by rw [c_33_21]; decide) (by rw [c_33_21]; decide) (by rw [c_33_21]; rfl) (by decide) ?_
                                                  refine lv_aload_n hx hb0 dL_law_730 rfl (lv_at hl 1 rfl) ?_
                                                  refine lv_aload_n hx hb0 dL_law_731 rfl (lv_at hl 0 rfl) ?_
                                                  refine lv_iload_n hx hb0 dL_law_732 rfl (lv_at hl 3 rfl) ?_
                                                  refine lv_iconst (v := (1 : Int32)) hx hb0 dL_law_733 (by decide) ?_
                                                  refine lv_iadd hx hb0 dL_law_734 ?_
                                                  obtain ⟨g_735, hw⟩ := hw
                                                  refine va_sld hx hb0 hX hbl hbA hW.2 g_735 dL_law_735 ?_
                                                  refine lv_aload_n hx hb0 dL_law_736 rfl (lv_at hl 0 rfl) ?_
                                                  refine lv_iload_n hx hb0 dL_law_737 rfl (lv_at hl 3 rfl) ?_
                                                  refine lv_iconst (v := (2 : Int32)) hx hb0 dL_law_738 (by decide) ?_
                                                  refine lv_iadd hx hb0 dL_law_739 ?_
                                                  obtain ⟨g_740, hw⟩ := hw
                                                  refine va_sld hx hb0 hX hbl hbA hW.2 g_740 dL_law_740 ?_
                                                  refine lv_aload_n hx hb0 dL_law_741 rfl (lv_at hl 0 rfl) ?_
                                                  refine lv_iload_n hx hb0 dL_law_742 rfl (lv_at hl 3 rfl) ?_
                                                  refine lv_iconst (v := (3 : Int32)) hx hb0 dL_law_743 (by decide) ?_
                                                  refine lv_iadd hx hb0 dL_law_744 ?_
                                                  obtain ⟨g_745, hw⟩ := hw
                                                  refine va_sld hx hb0 hX hbl hbA hW.2 g_745 dL_law_745 ?_
                                                  refine lv_aload_n hx hb0 dL_law_746 rfl (lv_at hl 0 rfl) ?_
                                                  refine lv_iload_n hx hb0 dL_law_747 rfl (lv_at hl 3 rfl) ?_
                                                  refine lv_iconst (v := (4 : Int32)) hx hb0 dL_law_748 (by decide) ?_
                                                  refine lv_iadd hx hb0 dL_law_749 ?_
                                                  obtain ⟨g_750, hw⟩ := hw
                                                  refine va_sld hx hb0 hX hbl hbA hW.2 g_750 dL_law_750 ?_
                                                  refine lv_aload_n hx hb0 dL_law_751 rfl (lv_at hl 0 rfl) ?_
                                                  refine lv_iload_n hx hb0 dL_law_752 rfl (lv_at hl 3 rfl) ?_
                                                  refine lv_iconst (v := (5 : Int32)) hx hb0 dL_law_753 (by decide) ?_
                                                  refine lv_iadd hx hb0 dL_law_754 ?_
                                                  obtain ⟨g_755, hw⟩ := hw
                                                  refine va_sld hx hb0 hX hbl hbA hW.2 g_755 dL_law_755 ?_
                                                  refine lv_aload_n hx hb0 dL_law_756 rfl (lv_at hl 0 rfl) ?_
                                                  refine lv_iload_n hx hb0 dL_law_757 rfl (lv_at hl 3 rfl) ?_
                                                  refine lv_bipush (v := (6 : Int32)) hx hb0 dL_law_758 (by decide) ?_
                                                  refine lv_iadd hx hb0 dL_law_760 ?_
                                                  obtain ⟨g_761, hw⟩ := hw
                                                  refine va_sld hx hb0 hX hbl hbA hW.2 g_761 dL_law_761 ?_
                                                  refine z_Vl X zO_0 zC6 zc_X8_gusts zs_X8_gusts zl_L_102 rfl ⟨rfl, rfl⟩ ⟨Nat.le_of_ble_eq_true rfl, Nat.le_of_ble_eq_true rfl⟩ (kX8_gusts l D cy ad X.2.2.2.1 (xs (v3 + (1 : Int32)).toNatClampNeg) (xs (v3 + (2 : Int32)).toNatClampNeg) (xs (v3 + (3 : Int32)).toNatClampNeg) (xs (v3 + (4 : Int32)).toNatClampNeg) (xs (v3 + (5 : Int32)).toNatClampNeg) (xs (v3 + (6 : Int32)).toNatClampNeg)) hW hw hl.1 rfl rfl (Nat.le_of_ble_eq_true rfl) dL_law_762 (fun r_762 M_762 L_762 H_762 locs_762 hw hW => ?_)
                                                  refine lv_aload_n hx hb0 dL_law_765 rfl (lv_at hl 2 rfl) ?_
                                                  refine lv_aload_n hx hb0 dL_law_766 rfl (lv_at hl 0 rfl) ?_
                                                  refine lv_iload_n hx hb0 dL_law_767 rfl (lv_at hl 3 rfl) ?_
                                                  refine lv_iconst (v := (1 : Int32)) hx hb0 dL_law_768 (by decide) ?_
                                                  refine lv_iadd hx hb0 dL_law_769 ?_
                                                  obtain ⟨g_770, hw⟩ := hw
                                                  refine va_sld hx hb0 hX hbl hbA hW.2 g_770 dL_law_770 ?_
                                                  refine lv_aload_n hx hb0 dL_law_771 rfl (lv_at hl 0 rfl) ?_
                                                  refine lv_iload_n hx hb0 dL_law_772 rfl (lv_at hl 3 rfl) ?_
                                                  refine lv_iconst (v := (2 : Int32)) hx hb0 dL_law_773 (by decide) ?_
                                                  refine lv_iadd hx hb0 dL_law_774 ?_
                                                  obtain ⟨g_775, hw⟩ := hw
                                                  refine va_sld hx hb0 hX hbl hbA hW.2 g_775 dL_law_775 ?_
                                                  refine lv_aload_n hx hb0 dL_law_776 rfl (lv_at hl 0 rfl) ?_
                                                  refine lv_iload_n hx hb0 dL_law_777 rfl (lv_at hl 3 rfl) ?_
                                                  refine lv_iconst (v := (3 : Int32)) hx hb0 dL_law_778 (by decide) ?_
                                                  refine lv_iadd hx hb0 dL_law_779 ?_
                                                  obtain ⟨g_780, hw⟩ := hw
                                                  refine va_sld hx hb0 hX hbl hbA hW.2 g_780 dL_law_780 ?_
                                                  refine lv_aload_n hx hb0 dL_law_781 rfl (lv_at hl 0 rfl) ?_
                                                  refine lv_iload_n hx hb0 dL_law_782 rfl (lv_at hl 3 rfl) ?_
                                                  refine lv_iconst (v := (4 : Int32)) hx hb0 dL_law_783 (by decide) ?_
                                                  refine lv_iadd hx hb0 dL_law_784 ?_
                                                  obtain ⟨g_785, hw⟩ := hw
                                                  refine va_sld hx hb0 hX hbl hbA hW.2 g_785 dL_law_785 ?_
                                                  refine lv_aload_n hx hb0 dL_law_786 rfl (lv_at hl 0 rfl) ?_
                                                  refine lv_iload_n hx hb0 dL_law_787 rfl (lv_at hl 3 rfl) ?_
                                                  refine lv_iconst (v := (5 : Int32)) hx hb0 dL_law_788 (by decide) ?_
                                                  refine lv_iadd hx hb0 dL_law_789 ?_
                                                  obtain ⟨g_790, hw⟩ := hw
                                                  refine va_sld hx hb0 hX hbl hbA hW.2 g_790 dL_law_790 ?_
                                                  refine lv_aload_n hx hb0 dL_law_791 rfl (lv_at hl 0 rfl) ?_
                                                  refine lv_iload_n hx hb0 dL_law_792 rfl (lv_at hl 3 rfl) ?_
                                                  refine lv_bipush (v := (6 : Int32)) hx hb0 dL_law_793 (by decide) ?_
                                                  refine lv_iadd hx hb0 dL_law_795 ?_
                                                  obtain ⟨g_796, hw⟩ := hw
                                                  refine va_sld hx hb0 hX hbl hbA hW.2 g_796 dL_law_796 ?_
                                                  refine z_Vl X zO_42 zC7 zc_X9_gusts zs_X9_gusts zl_L_106 rfl ⟨rfl, rfl⟩ ⟨Nat.le_of_ble_eq_true rfl, Nat.le_of_ble_eq_true rfl⟩ (kX9_gusts l D cy ad X.2.2.2.1 (xs (v3 + (1 : Int32)).toNatClampNeg) (xs (v3 + (2 : Int32)).toNatClampNeg) (xs (v3 + (3 : Int32)).toNatClampNeg) (xs (v3 + (4 : Int32)).toNatClampNeg) (xs (v3 + (5 : Int32)).toNatClampNeg) (xs (v3 + (6 : Int32)).toNatClampNeg)) hW hw hl.1 rfl rfl (Nat.le_of_ble_eq_true rfl) dL_law_797 (fun r_797 M_797 L_797 H_797 locs_797 hw hW => ?_)
                                                  refine W.lcmp hx hb0 dL_law_800 ?_
                                                  refine lv_if_eq (tgt := 951) hx hb0 dL_law_801 (by decide) (fun c_801 => ?_) (fun c_801 => ?_)
                                                  · replace hw := hw.1 c_801
                                                    exact mL_law_951 X hX hbl hbA post hret K18 hK18 M_797 L_797 v3 _ _ ls hw hW (lv_sub hl [0, 1, 2, 3] rfl)
                                                  · replace hw := hw.2 c_801
                                                    refine lv_iconst (v := (0 : Int32)) hx hb0 dL_law_804 (by decide) ?_
                                                    exact hret _ ls _ _ (0 : Int32) M_797 L_797 dL_law_805 rfl hw hW
                                                · replace hw := hw.2 c_33_21
                                                  by_cases c_33_22 : a_33 = (22 : Int32)
                                                  · replace hw := hw.1 c_33_22
                                                    refine lv_tableIn (tgt := 806) (off := 773) hx hb0 dL_law_33 (by rw [c_33_22]; decide) (by rw [c_33_22]; decide) (by rw [c_33_22]; rfl) (by decide) ?_
                                                    refine lv_aload_n hx hb0 dL_law_806 rfl (lv_at hl 1 rfl) ?_
                                                    refine lv_aload_n hx hb0 dL_law_807 rfl (lv_at hl 0 rfl) ?_
                                                    refine lv_iload_n hx hb0 dL_law_808 rfl (lv_at hl 3 rfl) ?_
                                                    refine lv_iconst (v := (1 : Int32)) hx hb0 dL_law_809 (by decide) ?_
                                                    refine lv_iadd hx hb0 dL_law_810 ?_
                                                    obtain ⟨g_811, hw⟩ := hw
                                                    refine va_sld hx hb0 hX hbl hbA hW.2 g_811 dL_law_811 ?_
                                                    refine lv_aload_n hx hb0 dL_law_812 rfl (lv_at hl 0 rfl) ?_
                                                    refine lv_iload_n hx hb0 dL_law_813 rfl (lv_at hl 3 rfl) ?_
                                                    refine lv_iconst (v := (2 : Int32)) hx hb0 dL_law_814 (by decide) ?_
                                                    refine lv_iadd hx hb0 dL_law_815 ?_
                                                    obtain ⟨g_816, hw⟩ := hw
                                                    refine va_sld hx hb0 hX hbl hbA hW.2 g_816 dL_law_816 ?_
                                                    refine z_Vi X zO_0 zC6 zc_X8_spoon zs_X8_spoon zl_L_107 rfl ⟨rfl, rfl⟩ ⟨Nat.le_of_ble_eq_true rfl, Nat.le_of_ble_eq_true rfl⟩ (kX8_spoon l D cy ad X.2.2.2.1 (xs (v3 + (1 : Int32)).toNatClampNeg) (xs (v3 + (2 : Int32)).toNatClampNeg)) hW hw hl.1 rfl rfl (Nat.le_of_ble_eq_true rfl) dL_law_817 (fun r_817 M_817 L_817 H_817 locs_817 hw hW => ?_)
                                                    refine lv_aload_n hx hb0 dL_law_820 rfl (lv_at hl 2 rfl) ?_
                                                    refine lv_aload_n hx hb0 dL_law_821 rfl (lv_at hl 0 rfl) ?_
                                                    refine lv_iload_n hx hb0 dL_law_822 rfl (lv_at hl 3 rfl) ?_
                                                    refine lv_iconst (v := (1 : Int32)) hx hb0 dL_law_823 (by decide) ?_
                                                    refine lv_iadd hx hb0 dL_law_824 ?_
                                                    obtain ⟨g_825, hw⟩ := hw
                                                    refine va_sld hx hb0 hX hbl hbA hW.2 g_825 dL_law_825 ?_
                                                    refine lv_aload_n hx hb0 dL_law_826 rfl (lv_at hl 0 rfl) ?_
                                                    refine lv_iload_n hx hb0 dL_law_827 rfl (lv_at hl 3 rfl) ?_
                                                    refine lv_iconst (v := (2 : Int32)) hx hb0 dL_law_828 (by decide) ?_
                                                    refine lv_iadd hx hb0 dL_law_829 ?_
                                                    obtain ⟨g_830, hw⟩ := hw
                                                    refine va_sld hx hb0 hX hbl hbA hW.2 g_830 dL_law_830 ?_
                                                    refine z_Vi X zO_42 zC7 zc_X9_spoon zs_X9_spoon zl_L_110 rfl ⟨rfl, rfl⟩ ⟨Nat.le_of_ble_eq_true rfl, Nat.le_of_ble_eq_true rfl⟩ (kX9_spoon l D cy ad X.2.2.2.1 (xs (v3 + (1 : Int32)).toNatClampNeg) (xs (v3 + (2 : Int32)).toNatClampNeg)) hW hw hl.1 rfl rfl (Nat.le_of_ble_eq_true rfl) dL_law_831 (fun r_831 M_831 L_831 H_831 locs_831 hw hW => ?_)
                                                    refine lv_icmp_eq (tgt := 951) hx hb0 dL_law_834 (by decide) (fun c_834 => ?_) (fun c_834 => ?_)
                                                    · replace hw := hw.1 c_834
                                                      exact mL_law_951 X hX hbl hbA post hret K18 hK18 M_831 L_831 v3 _ _ ls hw hW (lv_sub hl [0, 1, 2, 3] rfl)
                                                    · replace hw := hw.2 c_834
                                                      refine lv_iconst (v := (0 : Int32)) hx hb0 dL_law_837 (by decide) ?_
                                                      exact hret _ ls _ _ (0 : Int32) M_831 L_831 dL_law_838 rfl hw hW
                                                  · replace hw := hw.2 c_33_22
                                                    by_cases c_33_23 : a_33 = (23 : Int32)
                                                    · replace hw := hw.1 c_33_23
                                                      refine lv_tableIn (tgt := 839) (off := 806) hx hb0 dL_law_33 (by rw [c_33_23]; decide) (by rw [c_33_23]; decide) (by rw [c_33_23]; rfl) (by decide) ?_
                                                      refine lv_aload_n hx hb0 dL_law_839 rfl (lv_at hl 1 rfl) ?_
                                                      refine lv_aload_n hx hb0 dL_law_840 rfl (lv_at hl 0 rfl) ?_
                                                      refine lv_iload_n hx hb0 dL_law_841 rfl (lv_at hl 3 rfl) ?_
                                                      refine lv_iconst (v := (1 : Int32)) hx hb0 dL_law_842 (by decide) ?_
                                                      refine lv_iadd hx hb0 dL_law_843 ?_
                                                      obtain ⟨g_844, hw⟩ := hw
                                                      refine va_sld hx hb0 hX hbl hbA hW.2 g_844 dL_law_844 ?_
                                                      refine lv_aload_n hx hb0 dL_law_845 rfl (lv_at hl 0 rfl) ?_
                                                      refine lv_iload_n hx hb0 dL_law_846 rfl (lv_at hl 3 rfl) ?_
                                                      refine lv_iconst (v := (2 : Int32)) hx hb0 dL_law_847 (by decide) ?_
                                                      refine lv_iadd hx hb0 dL_law_848 ?_
                                                      obtain ⟨g_849, hw⟩ := hw
                                                      refine va_sld hx hb0 hX hbl hbA hW.2 g_849 dL_law_849 ?_
                                                      refine lv_aload_n hx hb0 dL_law_850 rfl (lv_at hl 0 rfl) ?_
                                                      refine lv_iload_n hx hb0 dL_law_851 rfl (lv_at hl 3 rfl) ?_
                                                      refine lv_iconst (v := (3 : Int32)) hx hb0 dL_law_852 (by decide) ?_
                                                      refine lv_iadd hx hb0 dL_law_853 ?_
                                                      obtain ⟨g_854, hw⟩ := hw
                                                      refine va_sld hx hb0 hX hbl hbA hW.2 g_854 dL_law_854 ?_
                                                      refine z_Vi X zO_0 zC6 zc_X8_year zs_X8_year zl_L_111 rfl ⟨rfl, rfl⟩ ⟨Nat.le_of_ble_eq_true rfl, Nat.le_of_ble_eq_true rfl⟩ (kX8_year l D cy ad X.2.2.2.1 (xs (v3 + (1 : Int32)).toNatClampNeg) (xs (v3 + (2 : Int32)).toNatClampNeg) (xs (v3 + (3 : Int32)).toNatClampNeg)) hW hw hl.1 rfl rfl (Nat.le_of_ble_eq_true rfl) dL_law_855 (fun r_855 M_855 L_855 H_855 locs_855 hw hW => ?_)
                                                      refine lv_aload_n hx hb0 dL_law_858 rfl (lv_at hl 2 rfl) ?_
                                                      refine lv_aload_n hx hb0 dL_law_859 rfl (lv_at hl 0 rfl) ?_
                                                      refine lv_iload_n hx hb0 dL_law_860 rfl (lv_at hl 3 rfl) ?_
                                                      refine lv_iconst (v := (1 : Int32)) hx hb0 dL_law_861 (by decide) ?_
                                                      refine lv_iadd hx hb0 dL_law_862 ?_
                                                      obtain ⟨g_863, hw⟩ := hw
                                                      refine va_sld hx hb0 hX hbl hbA hW.2 g_863 dL_law_863 ?_
                                                      refine lv_aload_n hx hb0 dL_law_864 rfl (lv_at hl 0 rfl) ?_
                                                      refine lv_iload_n hx hb0 dL_law_865 rfl (lv_at hl 3 rfl) ?_
                                                      refine lv_iconst (v := (2 : Int32)) hx hb0 dL_law_866 (by decide) ?_
                                                      refine lv_iadd hx hb0 dL_law_867 ?_
                                                      obtain ⟨g_868, hw⟩ := hw
                                                      refine va_sld hx hb0 hX hbl hbA hW.2 g_868 dL_law_868 ?_
                                                      refine lv_aload_n hx hb0 dL_law_869 rfl (lv_at hl 0 rfl) ?_
                                                      refine lv_iload_n hx hb0 dL_law_870 rfl (lv_at hl 3 rfl) ?_
                                                      refine lv_iconst (v := (3 : Int32)) hx hb0 dL_law_871 (by decide) ?_
                                                      refine lv_iadd hx hb0 dL_law_872 ?_
                                                      obtain ⟨g_873, hw⟩ := hw
                                                      refine va_sld hx hb0 hX hbl hbA hW.2 g_873 dL_law_873 ?_
                                                      refine z_Vi X zO_42 zC7 zc_X9_year zs_X9_year zl_L_115 rfl ⟨rfl, rfl⟩ ⟨Nat.le_of_ble_eq_true rfl, Nat.le_of_ble_eq_true rfl⟩ (kX9_year l D cy ad X.2.2.2.1 (xs (v3 + (1 : Int32)).toNatClampNeg) (xs (v3 + (2 : Int32)).toNatClampNeg) (xs (v3 + (3 : Int32)).toNatClampNeg)) hW hw hl.1 rfl rfl (Nat.le_of_ble_eq_true rfl) dL_law_874 (fun r_874 M_874 L_874 H_874 locs_874 hw hW => ?_)
                                                      refine lv_icmp_eq (tgt := 951) hx hb0 dL_law_877 (by decide) (fun c_877 => ?_) (fun c_877 => ?_)
                                                      · replace hw := hw.1 c_877
                                                        exact mL_law_951 X hX hbl hbA post hret K18 hK18 M_874 L_874 v3 _ _ ls hw hW (lv_sub hl [0, 1, 2, 3] rfl)
                                                      · replace hw := hw.2 c_877
                                                        refine lv_iconst (v := (0 : Int32)) hx hb0 dL_law_880 (by decide) ?_
                                                        exact hret _ ls _ _ (0 : Int32) M_874 L_874 dL_law_881 rfl hw hW
                                                    · replace hw := hw.2 c_33_23
                                                      by_cases c_33_24 : a_33 = (24 : Int32)
                                                      · replace hw := hw.1 c_33_24
                                                        refine lv_tableIn (tgt := 882) (off := 849) hx hb0 dL_law_33 (by rw [c_33_24]; decide) (by rw [c_33_24]; decide) (by rw [c_33_24]; rfl) (by decide) ?_
                                                        refine lv_aload_n hx hb0 dL_law_882 rfl (lv_at hl 1 rfl) ?_
                                                        refine lv_aload_n hx hb0 dL_law_883 rfl (lv_at hl 0 rfl) ?_
                                                        refine lv_iload_n hx hb0 dL_law_884 rfl (lv_at hl 3 rfl) ?_
                                                        refine lv_iconst (v := (1 : Int32)) hx hb0 dL_law_885 (by decide) ?_
                                                        refine lv_iadd hx hb0 dL_law_886 ?_
                                                        obtain ⟨g_887, hw⟩ := hw
                                                        refine va_sld hx hb0 hX hbl hbA hW.2 g_887 dL_law_887 ?_
                                                        refine z_Vi X zO_0 zC6 zc_X8_image zs_X8_image zl_L_116 rfl ⟨rfl, rfl⟩ ⟨Nat.le_of_ble_eq_true rfl, Nat.le_of_ble_eq_true rfl⟩ (kX8_image l D cy ad X.2.2.2.1 (xs (v3 + (1 : Int32)).toNatClampNeg)) hW hw hl.1 rfl rfl (Nat.le_of_ble_eq_true rfl) dL_law_888 (fun r_888 M_888 L_888 H_888 locs_888 hw hW => ?_)
                                                        refine lv_aload_n hx hb0 dL_law_891 rfl (lv_at hl 2 rfl) ?_
                                                        refine lv_aload_n hx hb0 dL_law_892 rfl (lv_at hl 0 rfl) ?_
                                                        refine lv_iload_n hx hb0 dL_law_893 rfl (lv_at hl 3 rfl) ?_
                                                        refine lv_iconst (v := (1 : Int32)) hx hb0 dL_law_894 (by decide) ?_
                                                        refine lv_iadd hx hb0 dL_law_895 ?_
                                                        obtain ⟨g_896, hw⟩ := hw
                                                        refine va_sld hx hb0 hX hbl hbA hW.2 g_896 dL_law_896 ?_
                                                        refine z_Vi X zO_42 zC7 zc_X9_image zs_X9_image zl_L_119 rfl ⟨rfl, rfl⟩ ⟨Nat.le_of_ble_eq_true rfl, Nat.le_of_ble_eq_true rfl⟩ (kX9_image l D cy ad X.2.2.2.1 (xs (v3 + (1 : Int32)).toNatClampNeg)) hW hw hl.1 rfl rfl (Nat.le_of_ble_eq_true rfl) dL_law_897 (fun r_897 M_897 L_897 H_897 locs_897 hw hW => ?_)
                                                        refine lv_icmp_eq (tgt := 951) hx hb0 dL_law_900 (by decide) (fun c_900 => ?_) (fun c_900 => ?_)
                                                        · replace hw := hw.1 c_900
                                                          exact mL_law_951 X hX hbl hbA post hret K18 hK18 M_897 L_897 v3 _ _ ls hw hW (lv_sub hl [0, 1, 2, 3] rfl)
                                                        · replace hw := hw.2 c_900
                                                          refine lv_iconst (v := (0 : Int32)) hx hb0 dL_law_903 (by decide) ?_
                                                          exact hret _ ls _ _ (0 : Int32) M_897 L_897 dL_law_904 rfl hw hW
                                                      · replace hw := hw.2 c_33_24
                                                        by_cases c_33_25 : a_33 = (25 : Int32)
                                                        · replace hw := hw.1 c_33_25
                                                          refine lv_tableIn (tgt := 905) (off := 872) hx hb0 dL_law_33 (by rw [c_33_25]; decide) (by rw [c_33_25]; decide) (by rw [c_33_25]; rfl) (by decide) ?_
                                                          refine lv_aload_n hx hb0 dL_law_905 rfl (lv_at hl 1 rfl) ?_
                                                          refine lv_aload_n hx hb0 dL_law_906 rfl (lv_at hl 0 rfl) ?_
                                                          refine lv_iload_n hx hb0 dL_law_907 rfl (lv_at hl 3 rfl) ?_
                                                          refine lv_iconst (v := (1 : Int32)) hx hb0 dL_law_908 (by decide) ?_
                                                          refine lv_iadd hx hb0 dL_law_909 ?_
                                                          obtain ⟨g_910, hw⟩ := hw
                                                          refine va_sld hx hb0 hX hbl hbA hW.2 g_910 dL_law_910 ?_
                                                          refine z_Vi X zO_0 zC6 zc_X8_restore zs_X8_restore zl_L_120 rfl ⟨rfl, rfl⟩ ⟨Nat.le_of_ble_eq_true rfl, Nat.le_of_ble_eq_true rfl⟩ (kX8_restore l D cy ad X.2.2.2.1 (xs (v3 + (1 : Int32)).toNatClampNeg)) hW hw hl.1 rfl rfl (Nat.le_of_ble_eq_true rfl) dL_law_911 (fun r_911 M_911 L_911 H_911 locs_911 hw hW => ?_)
                                                          refine lv_aload_n hx hb0 dL_law_914 rfl (lv_at hl 2 rfl) ?_
                                                          refine lv_aload_n hx hb0 dL_law_915 rfl (lv_at hl 0 rfl) ?_
                                                          refine lv_iload_n hx hb0 dL_law_916 rfl (lv_at hl 3 rfl) ?_
                                                          refine lv_iconst (v := (1 : Int32)) hx hb0 dL_law_917 (by decide) ?_
                                                          refine lv_iadd hx hb0 dL_law_918 ?_
                                                          obtain ⟨g_919, hw⟩ := hw
                                                          refine va_sld hx hb0 hX hbl hbA hW.2 g_919 dL_law_919 ?_
                                                          refine z_Vi X zO_42 zC7 zc_X9_restore zs_X9_restore zl_L_123 rfl ⟨rfl, rfl⟩ ⟨Nat.le_of_ble_eq_true rfl, Nat.le_of_ble_eq_true rfl⟩ (kX9_restore l D cy ad X.2.2.2.1 (xs (v3 + (1 : Int32)).toNatClampNeg)) hW hw hl.1 rfl rfl (Nat.le_of_ble_eq_true rfl) dL_law_920 (fun r_920 M_920 L_920 H_920 locs_920 hw hW => ?_)
                                                          refine lv_icmp_eq (tgt := 951) hx hb0 dL_law_923 (by decide) (fun c_923 => ?_) (fun c_923 => ?_)
                                                          · replace hw := hw.1 c_923
                                                            exact mL_law_951 X hX hbl hbA post hret K18 hK18 M_920 L_920 v3 _ _ ls hw hW (lv_sub hl [0, 1, 2, 3] rfl)
                                                          · replace hw := hw.2 c_923
                                                            refine lv_iconst (v := (0 : Int32)) hx hb0 dL_law_926 (by decide) ?_
                                                            exact hret _ ls _ _ (0 : Int32) M_920 L_920 dL_law_927 rfl hw hW
                                                        · replace hw := hw.2 c_33_25
                                                          by_cases c_33_26 : a_33 = (26 : Int32)
                                                          · replace hw := hw.1 c_33_26
                                                            refine lv_tableIn (tgt := 928) (off := 895) hx hb0 dL_law_33 (by rw [c_33_26]; decide) (by rw [c_33_26]; decide) (by rw [c_33_26]; rfl) (by decide) ?_
                                                            refine lv_aload_n hx hb0 dL_law_928 rfl (lv_at hl 1 rfl) ?_
                                                            refine lv_aload_n hx hb0 dL_law_929 rfl (lv_at hl 0 rfl) ?_
                                                            refine lv_iload_n hx hb0 dL_law_930 rfl (lv_at hl 3 rfl) ?_
                                                            refine lv_iconst (v := (1 : Int32)) hx hb0 dL_law_931 (by decide) ?_
                                                            refine lv_iadd hx hb0 dL_law_932 ?_
                                                            obtain ⟨g_933, hw⟩ := hw
                                                            refine va_sld hx hb0 hX hbl hbA hW.2 g_933 dL_law_933 ?_
                                                            refine z_Vi X zO_0 zC6 zc_X8_told zs_X8_told zl_L_124 rfl ⟨rfl, rfl⟩ ⟨Nat.le_of_ble_eq_true rfl, Nat.le_of_ble_eq_true rfl⟩ (kX8_told l D cy ad X.2.2.2.1 (xs (v3 + (1 : Int32)).toNatClampNeg)) hW hw hl.1 rfl rfl (Nat.le_of_ble_eq_true rfl) dL_law_934 (fun r_934 M_934 L_934 H_934 locs_934 hw hW => ?_)
                                                            refine lv_aload_n hx hb0 dL_law_937 rfl (lv_at hl 2 rfl) ?_
                                                            refine lv_aload_n hx hb0 dL_law_938 rfl (lv_at hl 0 rfl) ?_
                                                            refine lv_iload_n hx hb0 dL_law_939 rfl (lv_at hl 3 rfl) ?_
                                                            refine lv_iconst (v := (1 : Int32)) hx hb0 dL_law_940 (by decide) ?_
                                                            refine lv_iadd hx hb0 dL_law_941 ?_
                                                            obtain ⟨g_942, hw⟩ := hw
                                                            refine va_sld hx hb0 hX hbl hbA hW.2 g_942 dL_law_942 ?_
                                                            refine z_Vi X zO_42 zC7 zc_X9_told zs_X9_told zl_L_127 rfl ⟨rfl, rfl⟩ ⟨Nat.le_of_ble_eq_true rfl, Nat.le_of_ble_eq_true rfl⟩ (kX9_told l D cy ad X.2.2.2.1 (xs (v3 + (1 : Int32)).toNatClampNeg)) hW hw hl.1 rfl rfl (Nat.le_of_ble_eq_true rfl) dL_law_943 (fun r_943 M_943 L_943 H_943 locs_943 hw hW => ?_)
                                                            refine lv_icmp_eq (tgt := 951) hx hb0 dL_law_946 (by decide) (fun c_946 => ?_) (fun c_946 => ?_)
                                                            · replace hw := hw.1 c_946
                                                              exact mL_law_951 X hX hbl hbA post hret K18 hK18 M_943 L_943 v3 _ _ ls hw hW (lv_sub hl [0, 1, 2, 3] rfl)
                                                            · replace hw := hw.2 c_946
                                                              refine lv_iconst (v := (0 : Int32)) hx hb0 dL_law_949 (by decide) ?_
                                                              exact hret _ ls _ _ (0 : Int32) M_943 L_943 dL_law_950 rfl hw hW
                                                          · replace hw := hw.2 c_33_26
                                                            refine lv_tableOut (tgt := 951) hx hb0 dL_law_33 (by have q0 : ¬ a_33.toInt = 0 := lv_neT c_33_0 (by decide); have q1 : ¬ a_33.toInt = 1 := lv_neT c_33_1 (by decide); have q2 : ¬ a_33.toInt = 2 := lv_neT c_33_2 (by decide); have q3 : ¬ a_33.toInt = 3 := lv_neT c_33_3 (by decide); have q4 : ¬ a_33.toInt = 4 := lv_neT c_33_4 (by decide); have q5 : ¬ a_33.toInt = 5 := lv_neT c_33_5 (by decide); have q6 : ¬ a_33.toInt = 6 := lv_neT c_33_6 (by decide); have q7 : ¬ a_33.toInt = 7 := lv_neT c_33_7 (by decide); have q8 : ¬ a_33.toInt = 8 := lv_neT c_33_8 (by decide); have q9 : ¬ a_33.toInt = 9 := lv_neT c_33_9 (by decide); have q10 : ¬ a_33.toInt = 10 := lv_neT c_33_10 (by decide); have q11 : ¬ a_33.toInt = 11 := lv_neT c_33_11 (by decide); have q12 : ¬ a_33.toInt = 12 := lv_neT c_33_12 (by decide); have q13 : ¬ a_33.toInt = 13 := lv_neT c_33_13 (by decide); have q14 : ¬ a_33.toInt = 14 := lv_neT c_33_14 (by decide); have q15 : ¬ a_33.toInt = 15 := lv_neT c_33_15 (by decide); have q16 : ¬ a_33.toInt = 16 := lv_neT c_33_16 (by decide); have q17 : ¬ a_33.toInt = 17 := lv_neT c_33_17 (by decide); have q18 : ¬ a_33.toInt = 18 := lv_neT c_33_18 (by decide); have q19 : ¬ a_33.toInt = 19 := lv_neT c_33_19 (by decide); have q20 : ¬ a_33.toInt = 20 := lv_neT c_33_20 (by decide); have q21 : ¬ a_33.toInt = 21 := lv_neT c_33_21 (by decide); have q22 : ¬ a_33.toInt = 22 := lv_neT c_33_22 (by decide); have q23 : ¬ a_33.toInt = 23 := lv_neT c_33_23 (by decide); have q24 : ¬ a_33.toInt = 24 := lv_neT c_33_24 (by decide); have q25 : ¬ a_33.toInt = 25 := lv_neT c_33_25 (by decide); have q26 : ¬ a_33.toInt = 26 := lv_neT c_33_26 (by decide); omega) (by decide) ?_
                                                            exact mL_law_951 X hX hbl hbA post hret K18 hK18 M L v3 _ _ ls hw hW (lv_sub hl [0, 1, 2, 3] rfl)
