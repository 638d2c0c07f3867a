import java.util.ArrayList;
import java.util.List;
import java.util.TreeSet;

/** DEPTHS and a CART. */
final class Pits {
    int[] depths = {};
    int earth;

    Pits copy() {
        Pits p = new Pits();
        p.depths = depths.clone();
        p.earth = earth;
        return p;
    }

    List<TreeSet<Integer>> holes(Model m) {
        List<TreeSet<Integer>> holes = new ArrayList<>();
        TreeSet<Integer> seen = new TreeSet<>();
        for (int c = 0; c < depths.length; c++) {
            if (depths[c] > 0 && !seen.contains(c)) {
                TreeSet<Integer> hole = new TreeSet<>();
                reach(m, c, hole);
                seen.addAll(hole);
                holes.add(hole);
            }
        }
        return holes;
    }

    void reach(Model m, int c, TreeSet<Integer> hole) {
        hole.add(c);
        for (int d = 0; d < depths.length; d++) {
            if (depths[d] > 0 && !hole.contains(d) && m.beside(c, d)) {
                reach(m, d, hole);
            }
        }
    }

    int volume(TreeSet<Integer> hole) {
        return hole.stream().mapToInt(c -> depths[c]).sum();
    }

    int bottom(TreeSet<Integer> hole) {
        return hole.stream().mapToInt(c -> depths[c]).max().orElse(0);
    }
}
