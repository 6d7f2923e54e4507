import java.util.ArrayList;
import java.util.List;
import java.util.Random;

/** Runs of calls by seeds, answered by the class and by PlainModel: all of them must be the same. */
public final class RandomRunsTest {
    private static final int CALLS = 500;
    /** What an object answers behind its 512th call is free. */
    private static final int MOST_CALLS = 512;
    private static final String[] KIN = {"xyz", "uvw", "rst", "opq", "klm"};
    private static int wrong = 0;

    private final Random random;
    private final int seed;
    private final StreetNames x = new StreetNames();
    private final PlainModel y = new PlainModel();
    private final List<String> told = new ArrayList<>();
    private int calls = 0;
    private boolean differs = false;

    private RandomRunsTest(int seed) {
        this.seed = seed;
        this.random = new Random(seed);
    }

    public static void main(String[] args) {
        int runs = args.length > 1 ? Integer.parseInt(args[1]) : 150;
        int first = args.length > 2 ? Integer.parseInt(args[2]) : 0;
        for (int seed = first; seed < first + runs && wrong < 5; seed++) {
            new RandomRunsTest(seed).run();
            new RandomRunsTest(seed).runPlans();
            new RandomRunsTest(seed).runNumbers();
            if (seed % 3 == 0) {
                new RandomRunsTest(seed).runTightPlan();
            }
        }
        System.out.println("RandomRunsTest: " + runs + " runs, " + wrong + " differ");
        if (wrong != 0) {
            System.exit(1);
        }
    }

    /** Towns whose names hang together, so that THE PLAN has much to mind. */
    private void runPlans() {
        while (calls < CALLS && !differs) {
            List<String> names = new ArrayList<>();
            for (int i = 0; i < 200 && names.size() < 34; i++) {
                String name = letters("abc", 1) + letters("abc", 1) + letters("abc", 1)
                    + KIN[random.nextInt(names.size() < 8 ? 2 : KIN.length)];
                if (!names.contains(name)) {
                    names.add(name);
                }
            }
            int streets = 4 + random.nextInt(5);
            int aliases = streets + random.nextInt(6);
            int pool = Math.min(names.size(), aliases + 2 + random.nextInt(7));
            StringBuilder text = new StringBuilder("near 1;");
            for (int i = 0; i < Math.min(pool, names.size()); i++) {
                String street = names.get(random.nextInt(streets));
                text.append(i < streets ? "street " + names.get(i) : i < aliases
                    ? "alias " + names.get(i) + " of " + street : "pool " + names.get(i)).append(';');
            }
            for (int i = random.nextInt(8); i > 0; i--) {
                text.append("house ").append(names.get(random.nextInt(streets))).append(" left ").append(i).append(" 1;");
            }
            tell(text.toString());
            askPlan();
            same("carry", x.carry(), y.carry());
            askPlan();
        }
        tellIfDiffers();
    }

    /** One town whose POOL is so near to ALIASES and to itself that the NAMES must be tried many ways. */
    private void runTightPlan() {
        List<String> names = new ArrayList<>();
        int streets = 4 + below(7);
        int pool = streets + 8 + below(5);
        int all = pool + below(13);
        StringBuilder text = new StringBuilder("near 1;");
        while (names.size() < all) {
            boolean isStreet = names.size() < streets;
            String name = letters("abc", 1) + letters("abc", 1) + (isStreet || below(2) == 0 ? "" : letters("abc", 1))
                + KIN[isStreet ? below(2) : 2 + below(3)];
            if (!names.contains(name)) {
                String of = isStreet ? "" : names.get(below(streets));
                text.append(isStreet ? "street " + name : names.size() < pool ? "pool " + name
                    : "alias " + name + " of " + of).append(';');
                names.add(name);
            }
        }
        tell(text.toString());
        int[] got = y.thePlan();
        for (int s = 0; s < streets; s++) {
            same("planned(" + s + ")", x.planned(s), got == null ? -1 : got[s]);
        }
        tellIfDiffers();
    }

    private void askPlan() {
        for (int what = 0; what < 3; what++) {
            same("plan(" + what + ")", x.plan(what), y.plan(what));
        }
        for (int s = 0; s < y.now.streets.size(); s++) {
            same("planned(" + s + ")", x.planned(s), y.planned(s));
            same("circle(" + s + ")", x.circle(s), y.circle(s));
        }
        same("least", x.least(), y.least());
    }

    /** Streets with many houses, most of them in order or nearly so. */
    private void runNumbers() {
        while (calls < CALLS && !differs) {
            StringBuilder text = new StringBuilder("street a;step " + (1 + random.nextInt(30)) + ";");
            int houses = 4 + random.nextInt(9);
            boolean[] taken = new boolean[200];
            int width = 5 + random.nextInt(150);
            for (int i = 0; i < houses; i++) {
                int side = random.nextInt(5) == 0 ? 1 : 0;
                int yards = random.nextInt(width);
                if (side == 1 || !taken[yards]) {
                    taken[yards] = taken[yards] || side == 0;
                    int number = random.nextInt(3) == 0 ? 1 + random.nextInt(40) : yards / 3 * 2 + 1 + side;
                    text.append(side == 0 ? "house a left " : "house a right ")
                        .append(side == 0 ? yards : 300 + i).append(' ').append(number).append(';');
                }
            }
            tell(text.toString());
            same("ordered", x.ordered(0), y.ordered(0));
            same("fewest", x.fewest(0), y.fewest(0));
            for (int h = 0; h < houses; h++) {
                same("then(" + h + ")", x.then(0, h), y.then(0, h));
                int step = 1 + random.nextInt(99);
                same("stepped(" + step + ")", x.stepped(0, step), y.stepped(0, step));
            }
            same("renumber", x.renumber(0), y.renumber(0));
            same("ordered", x.ordered(0), y.ordered(0));
        }
        tellIfDiffers();
    }

    private void run() {
        while (calls < CALLS && !differs) {
            int kind = random.nextInt(100);
            if (calls == 0 || kind < 2) {
                tellTown(random.nextInt(3) != 0);
            } else if (kind < 6) {
                tellFaultyTown();
            } else if (kind < 12) {
                sayWord();
            } else if (kind < 45) {
                act();
            } else {
                ask();
            }
        }
        tellIfDiffers();
    }

    private void tellIfDiffers() {
        if (differs) {
            wrong++;
            System.out.println("seed " + seed + ":");
            for (String line : told.subList(Math.max(0, told.size() - 40), told.size())) {
                System.out.println("  " + line);
            }
        }
    }

    private void same(String call, long got, long want) {
        calls++;
        told.add(call + " = " + got + (got == want ? "" : ", due is " + want));
        if (got != want && calls <= MOST_CALLS) {
            differs = true;
        }
    }

    private void same(String call, boolean got, boolean want) {
        same(call, got ? 1 : 0, want ? 1 : 0);
    }

    private int below(int n) {
        return random.nextInt(n);
    }

    /** Mostly 0 .. n - 1, now and then beside it. */
    private int about(int n) {
        int pick = random.nextInt(30);
        return pick == 0 ? -1 : pick == 1 ? n : pick == 2 ? Integer.MIN_VALUE : pick == 3 ? Integer.MAX_VALUE
            : random.nextInt(Math.max(1, n));
    }

    // ---- texts

    private void feed(String text) {
        for (int from = 0; from < text.length(); from += 20) {
            int[] p = new int[5];
            for (int i = 0; i < 20; i++) {
                int sign = from + i < text.length() ? text.charAt(from + i) : random.nextInt(256);
                p[i / 4] = p[i / 4] << 8 | sign & 255;
            }
            same("feed", x.feed(p[0], p[1], p[2], p[3], p[4]), y.feed(p));
        }
        same("end", x.end(text.length()), y.end(text.length()));
    }

    private void clearTape() {
        same("end(0)", x.end(0), y.end(0));
    }

    private void tell(String text) {
        clearTape();
        told.add("text: " + text);
        feed(text);
        same("town", x.town(), y.town());
        same("fault(0)", x.fault(0), y.faultOf(0));
        same("fault(1)", x.fault(1), y.faultOf(1));
    }

    private String letters(String from, int most) {
        StringBuilder text = new StringBuilder();
        int length = 1 + random.nextInt(most);
        for (int i = 0; i < length; i++) {
            text.append(from.charAt(random.nextInt(from.length())));
        }
        return text.toString();
    }

    private String unlikeLetters(String from, int most) {
        StringBuilder text = new StringBuilder();
        for (char c : letters(from, most).toCharArray()) {
            if (text.indexOf(String.valueOf(c)) < 0) {
                text.append(c);
            }
        }
        return text.toString();
    }

    /** The text of a town, mostly without FAULT. */
    private String townText(boolean isSmall) {
        String[] alphabets = {"ab", "abc", "abcd", "abhk", "abcdefgh", "abcdefghijklmnopqrstuvwxyz"};
        String alphabet = alphabets[random.nextInt(alphabets.length)];
        int longest = 2 + random.nextInt(9);
        List<String> names = new ArrayList<>();
        for (int i = 0; i < 200; i++) {
            String name = letters(alphabet, longest);
            if (!names.contains(name) && !PlainModel.OWN.contains(name)) {
                names.add(name);
            }
        }
        List<String> parts = new ArrayList<>();
        rules(parts, alphabet);
        int streets = Math.min(names.size(), random.nextInt(isSmall ? 6 : 11));
        List<String> streetNames = new ArrayList<>(names.subList(0, streets));
        int next = streets;
        List<String> behind = new ArrayList<>();
        int aliases = random.nextInt(isSmall ? 5 : 13);
        for (int i = 0; i < aliases && next < names.size() && streets > 0; i++) {
            behind.add("alias " + names.get(next++) + " of " + streetNames.get(random.nextInt(streets)));
        }
        int pool = random.nextInt(isSmall ? 7 : 13);
        for (int i = 0; i < pool && next < names.size(); i++) {
            behind.add("pool " + names.get(next++));
        }
        int houses = random.nextInt(40);
        int farthest = new int[] {30, 100, 600, 5100, 9999}[random.nextInt(5)];
        for (int i = 0; i < houses && streets > 0; i++) {
            behind.add("house " + streetNames.get(random.nextInt(streets)) + (random.nextBoolean() ? " left " : " right ")
                + random.nextInt(farthest + 1) + " " + (1 + random.nextInt(random.nextBoolean() ? 30 : 999)));
        }
        for (String name : streetNames) {
            parts.add(random.nextInt(parts.size() + 1), "street " + name);
        }
        sortStreets(parts, streetNames);
        java.util.Collections.shuffle(behind, random);
        parts.addAll(behind);
        StringBuilder text = new StringBuilder();
        for (String part : parts) {
            if (text.length() + part.length() > 1900) {
                break;
            }
            text.append(part).append(random.nextInt(5) == 0 ? " ;\n" : ";");
        }
        return text.toString();
    }

    private void rules(List<String> parts, String alphabet) {
        if (random.nextBoolean()) {
            parts.add("near " + random.nextInt(4));
        }
        if (random.nextBoolean()) {
            parts.add("last " + random.nextInt(random.nextBoolean() ? 5 : 100));
        }
        if (random.nextBoolean()) {
            parts.add("step " + (1 + random.nextInt(99)));
        }
        if (random.nextBoolean()) {
            parts.add("mute " + unlikeLetters(alphabet, 3));
        }
        String left = alphabet;
        for (int i = random.nextInt(4); i > 0 && left.length() > 1; i--) {
            String group = unlikeLetters(left, 3);
            if (group.length() > 1) {
                parts.add("same " + group);
                left = left.replaceAll("[" + group + "]", "");
            }
        }
        List<String> twos = new ArrayList<>();
        for (int i = random.nextInt(5); i > 0; i--) {
            String two = letters(alphabet, 1) + letters(alphabet, 1);
            if (!twos.contains(two)) {
                twos.add(two);
                parts.add("pair " + two + " " + letters(alphabet, 1));
            }
        }
    }

    /** Streets were put among the rules in any order; the names stay as they are numbered. */
    private static void sortStreets(List<String> parts, List<String> streetNames) {
        int next = 0;
        for (int i = 0; i < parts.size(); i++) {
            if (parts.get(i).startsWith("street ")) {
                parts.set(i, "street " + streetNames.get(next));
                next++;
            }
        }
    }

    private void tellTown(boolean isSmall) {
        tell(townText(isSmall));
    }

    private static final String[] PIECES = {"near", "last", "step", "mute", "same", "pair", "street", "house", "left",
        "right", "alias", "of", "pool", ";", " ", "\n", "0", "1", "9", "12345", "9999", "100", "a", "b", "ab", "aa",
        "abcdefghijk", "abcdefghij", "abcdefghijklmnopqrstuvwxyz", "abcdefghijklmnopqrstuvwxyza", "$", "\t", "A",
        "; ", " a ", " b;", "street a;", "house a left ", "pool c d;", "alias e of a;", "pair ab c;", "same ab;"};

    private void tellFaultyTown() {
        StringBuilder text = new StringBuilder(random.nextBoolean() ? townText(true) : "");
        int edits = 1 + random.nextInt(4);
        if (text.length() == 0) {
            for (int i = random.nextInt(25); i >= 0; i--) {
                text.append(PIECES[random.nextInt(PIECES.length)]).append(random.nextInt(3) == 0 ? " " : "");
            }
            edits = random.nextInt(2);
        }
        for (int i = 0; i < edits && text.length() > 0; i++) {
            int place = random.nextInt(text.length());
            int kind = random.nextInt(3);
            if (kind == 0) {
                text.deleteCharAt(place);
            } else if (kind == 1) {
                text.insert(place, PIECES[random.nextInt(PIECES.length)]);
            } else {
                text.setLength(place);
            }
        }
        if (text.length() > 2000) {
            text.setLength(2000);
        }
        same("keep(0)", x.keep(0), y.keep(0));
        tell(text.toString());
        if (random.nextInt(4) != 0) {
            same("back(0)", x.back(0), y.back(0));
        }
    }

    private String anyName() {
        List<String> names = new ArrayList<>();
        for (PlainModel.Street street : y.now.streets) {
            names.add(street.name);
        }
        names.addAll(y.now.pool);
        for (PlainModel.Alias alias : y.now.aliases) {
            names.add(alias.name);
            names.add(alias.name);
        }
        return names.isEmpty() ? "a" : names.get(random.nextInt(names.size()));
    }

    private String someWord() {
        StringBuilder word = new StringBuilder(anyName());
        for (int i = random.nextInt(4); i > 0; i--) {
            int place = random.nextInt(word.length() + 1);
            int kind = random.nextInt(5);
            if (kind == 0 && place < word.length()) {
                word.deleteCharAt(place);
            } else if (kind == 1) {
                word.insert(place, (char) ('a' + random.nextInt(26)));
            } else if (kind == 2 && place < word.length()) {
                word.setCharAt(place, word.charAt(random.nextInt(word.length())));
            } else if (kind == 3 && place < word.length()) {
                word.insert(place, word.charAt(place));
            }
        }
        int kind = random.nextInt(30);
        return kind == 0 ? PIECES[random.nextInt(PIECES.length)] : kind == 1 ? word + "\n" : word.toString();
    }

    private void sayWord() {
        clearTape();
        String word = someWord();
        told.add("word: " + word);
        feed(word);
        switch (random.nextInt(3)) {
            case 0:
                same("heard", x.heard(), y.heard());
                for (int i = -1; i < 11; i += 1 + random.nextInt(3)) {
                    same("heardAt(" + i + ")", x.heardAt(i), y.heardAt(i));
                }
                break;
            case 1:
                same("find", x.find(), y.find());
                break;
            default:
                same("fades", x.fades(), y.fades());
        }
    }

    // ---- acts and questions

    private int street() {
        return about(y.now.streets.size());
    }

    private int yards() {
        return random.nextInt(8) == 0 ? about(10000) : random.nextInt(random.nextBoolean() ? 60 : 1500);
    }

    private void act() {
        int s = street();
        switch (random.nextInt(12)) {
            case 0:
            case 1:
            case 2: {
                int k = about(y.now.pool.size());
                same("take(" + s + ", " + k + ")", x.take(s, k), y.take(s, k));
                break;
            }
            case 3:
                same("carry", x.carry(), y.carry());
                break;
            case 4:
                same("renumber(" + s + ")", x.renumber(s), y.renumber(s));
                break;
            case 5:
            case 6: {
                int side = about(2);
                int yards = yards();
                same("would(" + s + ", " + side + ", " + yards + ")", x.would(s, side, yards), y.would(s, side, yards));
                same("build(" + s + ", " + side + ", " + yards + ")", x.build(s, side, yards), y.build(s, side, yards));
                break;
            }
            case 7: {
                int h = about(6);
                same("tear(" + s + ", " + h + ")", x.tear(s, h), y.tear(s, h));
                break;
            }
            case 8: {
                int n = random.nextInt(6) == 0 ? about(101) : 1 + random.nextInt(random.nextInt(4) == 0 ? 99 : 3);
                same("years(" + n + ")", x.years(n), y.years(n));
                break;
            }
            case 9:
            case 10:
                same("undo", x.undo(), y.undo());
                break;
            default: {
                int k = about(2);
                if (random.nextBoolean()) {
                    same("keep(" + k + ")", x.keep(k), y.keep(k));
                } else {
                    same("back(" + k + ")", x.back(k), y.back(k));
                }
            }
        }
    }

    private void ask() {
        switch (random.nextInt(4)) {
            case 0:
                askNames();
                break;
            case 1:
                askClashes();
                break;
            case 2:
                askHouses();
                break;
            default:
                askState();
        }
    }

    private void askNames() {
        int kind = about(3);
        int k = about(10);
        int other = about(3);
        int n = about(10);
        int i = about(10);
        same("letter(" + kind + "," + k + "," + i + ")", x.letter(kind, k, i), y.letter(kind, k, i));
        same("key(" + kind + "," + k + "," + i + ")", x.key(kind, k, i), y.key(kind, k, i));
        String two = "(" + kind + "," + k + "," + other + "," + n + ")";
        same("changes" + two, x.changes(kind, k, other, n), y.changes(kind, k, other, n));
        same("alike" + two, x.alike(kind, k, other, n), y.alike(kind, k, other, n));
        int what = about(3);
        same("alias(" + k + "," + what + ")", x.alias(k, what), y.alias(k, what));
        same("nearest(" + kind + "," + k + "," + what + ")", x.nearest(kind, k, what), y.nearest(kind, k, what));
    }

    private void askClashes() {
        int s = street();
        int k = about(12);
        same("clash(-1)", x.clash(-1), y.clash(-1));
        same("clash(" + k + ")", x.clash(k), y.clash(k));
        same("circle(" + s + ")", x.circle(s), y.circle(s));
        same("why(" + s + "," + k + ")", x.why(s, k), y.why(s, k));
        same("takes(" + s + "," + k + ")", x.takes(s, k), y.takes(s, k));
        same("takes(" + s + ",-1)", x.takes(s, -1), y.takes(s, -1));
        int what = about(3);
        same("plan(" + what + ")", x.plan(what), y.plan(what));
        same("planned(" + s + ")", x.planned(s), y.planned(s));
        same("least", x.least(), y.least());
    }

    private void askHouses() {
        int s = street();
        int h = about(6);
        int what = about(5);
        same("houses(" + s + ")", x.houses(s), y.houses(s));
        same("house(" + s + "," + h + "," + what + ")", x.house(s, h, what), y.house(s, h, what));
        int number = random.nextInt(40);
        same("at(" + s + "," + number + ")", x.at(s, number), y.at(s, number));
        same("ordered(" + s + ")", x.ordered(s), y.ordered(s));
        same("fewest(" + s + ")", x.fewest(s), y.fewest(s));
        same("then(" + s + "," + h + ")", x.then(s, h), y.then(s, h));
        int step = about(100);
        same("stepped(" + s + "," + step + ")", x.stepped(s, step), y.stepped(s, step));
        int side = about(2);
        same("gaps(" + s + "," + side + ")", x.gaps(s, side), y.gaps(s, side));
    }

    private void askState() {
        for (int what = -1; what < 13; what++) {
            same("has(" + what + ")", x.has(what), y.has(what));
        }
        for (int what = -1; what < 6; what++) {
            same("status(" + what + ")", x.status(what), y.status(what));
        }
        int s = street();
        long[] rates = {0, 1, -1, below(1000), Long.MAX_VALUE, Long.MIN_VALUE, Long.MAX_VALUE / (1 + below(300)),
            Long.MAX_VALUE / (1 + below(30)) + below(2)};
        long rate = rates[below(rates.length)];
        same("cost(" + s + "," + rate + ")", x.cost(s, rate), y.cost(s, rate));
        same("bill(" + rate + ")", x.bill(rate), y.bill(rate));
    }
}
