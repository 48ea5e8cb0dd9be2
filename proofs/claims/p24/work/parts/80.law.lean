theorem wp_law : wp_L_law := sorry
