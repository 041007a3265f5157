import java.math.BigInteger;
import java.util.ArrayList;
import java.util.List;
import java.util.TreeSet;
import java.util.regex.Matcher;
import java.util.regex.Pattern;

/**
 * All 29 calls answered another way: letters by a pattern, DRAWS by numbers without end, quarters by Oracle.
 * Refusals are told as one list of conditions each, in the document's order.
 */
final class Model {
    static final String[] CALLS = {"letter", "town", "street", "plot", "crossing", "quarters", "open", "with", "corners", "sides",
        "isOpen", "whole", "points", "lamps", "where", "together", "steps", "next", "through", "spare", "most", "fear", "taken",
        "row", "judge", "seeds", "image", "on", "count"};
    private static final String STATEMENT = "(s[pldgtn]([+-][0-9]){2}[+-][0-9]{1,2}|p([+-][0-9]{1,2}){2});";
    private static final Pattern TOWN = Pattern.compile("(" + STATEMENT + ")+", Pattern.DOTALL);
    private static final int FITS = 0;

    private List<int[]> streets = new ArrayList<>();
    private List<int[]> plots = new ArrayList<>();
    private List<int[]> imageStreets;
    private List<int[]> imagePlots;
    private final List<Integer> row = new ArrayList<>();
    private final StringBuilder letters = new StringBuilder();
    private final int[] refusals = new int[7];
    private Oracle oracle = oracle();

    long call(String name, int a, int b, int c, int d) {
        int refusal = refusal(name, a, b, c, d);
        if (refusal == FITS) {
            return answer(name, a, b, c, d);
        }
        refusals[-refusal]++;
        return List.of("street", "plot", "crossing", "through", "spare").contains(name) ? 1000000000L - refusal : refusal;
    }

    int streets() {
        return streets.size();
    }

    int plots() {
        return plots.size();
    }

    private int refusal(String name, int a, int b, int c, int d) {
        boolean street = a >= 0 && a < streets.size();
        boolean plot = a >= 0 && a < plots.size();
        switch (name) {
            case "letter": return range(a, 0, 255) != FITS ? range(a, 0, 255) : letters.length() >= 96 ? -6 : FITS;
            case "street": return !street ? -1 : range(b, 0, 4) != FITS ? -2 : FITS;
            case "plot": return !plot ? -1 : range(b, 0, 1) != FITS ? -2 : FITS;
            case "crossing":
                return !street || b < 0 || b >= streets.size() || a == b ? -1 : range(c, 0, 3) != FITS ? -2 : FITS;
            case "with": return range(a, 0, 12);
            case "corners":
            case "sides":
            case "isOpen": return oracle.has(a) ? FITS : -1;
            case "points": return range(a, 0, 2) != FITS ? -2 : FITS;
            case "where":
            case "together": return plot ? FITS : -1;
            case "steps": return plot && b >= 0 && b < plots.size() ? FITS : -1;
            case "next": return d < -1 || d >= plots.size() ? -1 : line(a, b, c, true);
            case "through": return c < 0 || c >= plots.size() ? -1 : line(a, b, 0, false);
            case "spare":
            case "most": return line(a, b, 0, true);
            case "fear": return !plot ? -1 : range(b, 0, 1) != FITS ? -2 : FITS;
            case "taken": return street || a == -1 ? FITS : -1;
            case "row": return range(a, 0, 63) != FITS ? range(a, 0, 63) : row.size() >= 12 ? -6 : FITS;
            case "seeds": return range(a, 1, 30);
            case "on": return imageStreets == null ? -3 : FITS;
            default: return FITS;
        }
    }

    private static int range(int number, int least, int most) {
        return number < least ? -4 : number > most ? -6 : FITS;
    }

    private int line(int a, int b, int c, boolean ofNewDirection) {
        List<Integer> found = List.of(range(a, -9, 9), range(b, -9, 9), range(c, -99, 99));
        if (found.contains(-4) || found.contains(-6)) {
            return found.contains(-4) ? -4 : -6;
        }
        boolean there = ofNewDirection && !oracle.isNew(a, b);
        return a == 0 && b == 0 || there ? -3 : FITS;
    }

    private long answer(String name, int a, int b, int c, int d) {
        switch (name) {
            case "letter": return letters.append((char) a).length();
            case "town": return town();
            case "street": return b == 4 ? oracle.lamps(a) : streets.get(a)[b];
            case "plot": return plots.get(a)[b];
            case "crossing": return oracle.crossing(a, b)[c];
            case "through": return (long) a * plots.get(c)[0] + (long) b * plots.get(c)[1];
            case "row": row.add(a); return row.size();
            case "judge": return judge();
            case "seeds": return seeds(a, b);
            case "image": return image();
            case "on": return on();
            case "count": return count(a);
            case "where": return oracle.where(a);
            case "together": return together(a);
            case "steps": return oracle.steps(a, b);
            case "next": return next(a, b, c, d);
            case "spare": return oracle.spare(a, b);
            case "most": return oracle.most(a, b);
            case "fear": return oracle.fear(a, b);
            default: return ofThePlain(name, a);
        }
    }

    private long ofThePlain(String name, int a) {
        List<Integer> all = oracle.quarters();
        List<int[]> points = oracle.points();
        switch (name) {
            case "quarters": return all.size();
            case "open": return all.stream().filter(q -> oracle.isOpen(q)).count();
            case "with": return all.stream().filter(q -> oracle.corners(q) == a).count();
            case "whole": return all.stream().filter(q -> oracle.sides(q) == streets.size()).count();
            case "corners": return oracle.corners(a);
            case "sides": return oracle.sides(a);
            case "isOpen": return oracle.isOpen(a) ? 1 : 0;
            case "lamps": return java.util.stream.IntStream.range(0, streets.size()).map(s -> oracle.lamps(s)).sum();
            case "taken": return a == -1 ? oracle.taken() : oracle.without(a).quarters().size();
            case "points":
                return a == 0 ? points.size() : a == 1 ? points.stream().filter(p -> oracle.meeting(p) > 2).count()
                    : points.stream().mapToInt(p -> oracle.meeting(p)).max().orElse(0);
            default: throw new IllegalStateException(name);
        }
    }

    private int town() {
        String text = letters.toString();
        letters.setLength(0);
        for (int end = 1; end <= text.length(); end++) {
            Matcher ahead = TOWN.matcher(text.substring(0, end));
            if (!ahead.matches() && !ahead.hitEnd()) {
                return -1000 - (end - 1);
            }
        }
        if (!TOWN.matcher(text).matches()) {
            return -1000 - text.length();
        }
        List<int[]> oldStreets = streets;
        List<int[]> oldPlots = plots;
        streets = new ArrayList<>(streets);
        plots = new ArrayList<>(plots);
        Matcher each = Pattern.compile(STATEMENT).matcher(text);
        int statements = 0;
        while (each.find()) {
            statements++;
            if (!comes(each.group())) {
                streets = oldStreets;
                plots = oldPlots;
                return -2000 - each.start();
            }
        }
        oracle = oracle();
        return statements;
    }

    private boolean comes(String statement) {
        Matcher number = Pattern.compile("[+-][0-9]+").matcher(statement);
        List<Integer> numbers = new ArrayList<>();
        while (number.find()) {
            numbers.add(Integer.parseInt(number.group()));
        }
        if (numbers.size() == 2) {
            plots.add(new int[] {numbers.get(0), numbers.get(1)});
            return plots.size() <= 8 && range(numbers.get(0), -20, 20) == FITS && range(numbers.get(1), -20, 20) == FITS;
        }
        boolean fresh = numbers.get(0) != 0 || numbers.get(1) != 0;
        for (int[] street : streets) {
            fresh &= numbers.get(0) * street[2] != street[1] * numbers.get(1);
        }
        streets.add(new int[] {"pldgtn".indexOf(statement.charAt(1)), numbers.get(0), numbers.get(1), numbers.get(2)});
        return fresh && streets.size() <= 6;
    }

    private Oracle oracle() {
        int[][] lines = new int[streets.size()][];
        char[] kinds = new char[streets.size()];
        for (int s = 0; s < lines.length; s++) {
            int[] street = streets.get(s);
            lines[s] = new int[] {street[1], street[2], street[3]};
            kinds[s] = "pldgtn".charAt(street[0]);
        }
        return new Oracle(lines, kinds, plots.toArray(new int[0][]));
    }

    private int together(int plot) {
        int bits = 0;
        for (int other = 0; other < plots.size(); other++) {
            bits += oracle.where(plot) != -9 && oracle.where(plot) == oracle.where(other) ? 1 << other : 0;
        }
        return bits;
    }

    private long next(int a, int b, int c, int plot) {
        if (plot == -1) {
            return oracle.quarters().stream().filter(q -> oracle.cuts(a, b, c, q)).count();
        }
        int quarter = oracle.where(plot);
        return quarter == -9 ? -9 : oracle.cuts(a, b, c, quarter) ? 1 : 0;
    }

    private int judge() {
        List<Integer> told = new ArrayList<>(row);
        row.clear();
        for (int i = 0; i < told.size(); i++) {
            if (!oracle.has(told.get(i)) || i > 0 && !beside(told.get(i), told.get(i - 1))) {
                return i;
            }
        }
        return -9;
    }

    private boolean beside(int one, int other) {
        int parting = one ^ other;
        return Integer.bitCount(parting) == 1 && oracle.liesAt(one, Integer.numberOfTrailingZeros(parting));
    }

    private int seeds(int n, int z) {
        BigInteger seed = BigInteger.valueOf(z);
        TreeSet<Integer> quarters = new TreeSet<>();
        int[] drawn = new int[2];
        for (int i = 0; i < 2 * n; i++) {
            seed = seed.multiply(BigInteger.valueOf(1664525)).add(BigInteger.valueOf(1013904223));
            drawn[i % 2] = seed.mod(BigInteger.TWO.pow(31)).divide(BigInteger.valueOf(256)).mod(BigInteger.valueOf(41)).intValue() - 20;
            if (i % 2 == 1) {
                quarters.add(oracle.where(drawn[0], drawn[1]));
            }
        }
        quarters.remove(-9);
        return quarters.size();
    }

    private int image() {
        imageStreets = new ArrayList<>(streets);
        imagePlots = new ArrayList<>(plots);
        return streets.size();
    }

    private int on() {
        streets = new ArrayList<>(imageStreets);
        plots = new ArrayList<>(imagePlots);
        oracle = oracle();
        return streets.size();
    }

    private int count(int what) {
        switch (what) {
            case 0: return streets.size();
            case 1: return plots.size();
            case 2: return row.size();
            case 3: return letters.length();
            default: return what >= 11 && what <= 16 ? refusals[what - 10] : -9;
        }
    }
}
