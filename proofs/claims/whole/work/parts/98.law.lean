theorem jw_law_ok : jw_law := sorry
