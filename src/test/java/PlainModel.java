import java.util.ArrayDeque;
import java.util.ArrayList;
import java.util.Arrays;
import java.util.HashMap;
import java.util.HashSet;
import java.util.List;
import java.util.Map;
import java.util.Set;
import java.util.TreeMap;
import java.util.regex.Matcher;
import java.util.regex.Pattern;

/**
 * The document once more, word for word and without thrift: texts are texts, ways are tried one by one.
 * RandomRunsTest holds the class against it.
 */
final class PlainModel {
    static final Set<String> OWN = Set.of("near", "last", "step", "mute", "same", "pair", "street", "house", "left",
        "right", "alias", "of", "pool");

    static final class House {
        int side;
        int yards;
        int number;

        House(int side, int yards, int number) {
            this.side = side;
            this.yards = yards;
            this.number = number;
        }
    }

    static final class Street {
        String name;
        List<House> houses = new ArrayList<>();

        Street(String name) {
            this.name = name;
        }
    }

    static final class Alias {
        final String name;
        final int street;
        final int last;

        Alias(String name, int street, int last) {
            this.name = name;
            this.street = street;
            this.last = last;
        }
    }

    static final class State {
        int near = 1;
        int last = 10;
        int step = 10;
        int year = 0;
        String mute = "";
        List<String> groups = new ArrayList<>();
        Map<String, String> pairs = new TreeMap<>();
        List<Street> streets = new ArrayList<>();
        List<String> pool = new ArrayList<>();
        List<Alias> aliases = new ArrayList<>();

        State copy() {
            State other = new State();
            other.near = near;
            other.last = last;
            other.step = step;
            other.year = year;
            other.mute = mute;
            other.groups.addAll(groups);
            other.pairs.putAll(pairs);
            for (Street street : streets) {
                Street twin = new Street(street.name);
                for (House h : street.houses) {
                    twin.houses.add(new House(h.side, h.yards, h.number));
                }
                other.streets.add(twin);
            }
            other.pool.addAll(pool);
            other.aliases.addAll(aliases);
            return other;
        }
    }

    private static final class Fault extends RuntimeException {
        private static final long serialVersionUID = 1L;
        final int which;
        final int place;

        Fault(int which, int place) {
            this.which = which;
            this.place = place;
        }
    }

    State now = new State();
    String tape = "";
    int fault = 0;
    int place = -1;
    String heard = "";
    final ArrayDeque<State> past = new ArrayDeque<>();
    final State[] images = new State[2];
    final int[] refused = new int[5];

    private int refuse(int what) {
        refused[what]++;
        return -1;
    }

    // ---- the tape, the town

    int feed(int... numbers) {
        if (tape.length() + 20 > 2000) {
            return refuse(0);
        }
        StringBuilder text = new StringBuilder(tape);
        for (int number : numbers) {
            for (int shift = 24; shift >= 0; shift -= 8) {
                text.append((char) (number >>> shift & 255));
            }
        }
        tape = text.toString();
        return tape.length();
    }

    boolean end(int n) {
        if (n < 0 || n > tape.length()) {
            refuse(0);
            return false;
        }
        tape = tape.substring(0, n);
        return true;
    }

    int town() {
        String text = tape;
        tape = "";
        try {
            State made = new TextOfTown(text).read();
            now = made;
            past.clear();
            fault = 0;
            place = -1;
            return now.streets.size();
        } catch (Fault f) {
            fault = f.which;
            place = f.place;
            return refuse(1);
        }
    }

    /** Cuts the text into words, numbers and bytes first, then reads these. */
    private static final class TextOfTown {
        private final List<String> signs = new ArrayList<>();
        private final List<Integer> places = new ArrayList<>();
        private final Set<Integer> touching = new HashSet<>();
        private final int length;
        private int i = 0;
        private final State made = new State();
        private final Set<String> once = new HashSet<>();

        TextOfTown(String text) {
            length = text.length();
            Matcher m = Pattern.compile("[a-z]+|[0-9]+|[^ \n]", Pattern.DOTALL).matcher(text);
            int behind = -1;
            while (m.find()) {
                boolean isLong = m.group().matches("[a-z0-9]+");
                if (isLong && m.start() == behind) {
                    touching.add(signs.size());
                }
                signs.add(m.group());
                places.add(m.start());
                behind = isLong ? m.end() : -1;
            }
        }

        private String look() {
            return i >= signs.size() || touching.contains(i) ? "" : signs.get(i);
        }

        private int here() {
            return i >= signs.size() ? length : places.get(i);
        }

        private Fault fault(int which) {
            return new Fault(which, here());
        }

        private void must(boolean holds, int which) {
            if (!holds) {
                throw fault(which);
            }
        }

        private String next() {
            String sign = look();
            i++;
            return sign;
        }

        private void isWord(String word) {
            must(look().equals(word), 1);
            i++;
        }

        private int number(int least, int most) {
            must(look().matches("[0-9]{1,4}"), 1);
            int value = Integer.parseInt(look());
            must(value >= least && value <= most, 2);
            i++;
            return value;
        }

        private boolean isNewIn(String name) {
            return made.streets.stream().noneMatch(s -> s.name.equals(name)) && !made.pool.contains(name)
                && made.aliases.stream().noneMatch(a -> a.name.equals(name));
        }

        private void nameHere() {
            must(look().matches("[a-z]{1,10}") && !OWN.contains(look()), 1);
        }

        private void newNameHere() {
            nameHere();
            must(isNewIn(look()), 3);
        }

        private int streetHere() {
            nameHere();
            for (int s = 0; s < made.streets.size(); s++) {
                if (made.streets.get(s).name.equals(look())) {
                    return s;
                }
            }
            throw fault(3);
        }

        private static boolean unlike(String letters) {
            return letters.chars().distinct().count() == letters.length();
        }

        State read() {
            while (i < signs.size()) {
                statement();
                isWord(";");
            }
            List<Alias> told = new ArrayList<>(made.aliases);
            made.aliases.clear();
            for (Alias a : told) {
                made.aliases.add(new Alias(a.name, a.street, made.last));
            }
            return made;
        }

        private void statement() {
            String word = look();
            if (Set.of("near", "last", "step", "mute").contains(word)) {
                must(once.add(word), 1);
            }
            if (word.equals("near")) {
                i++;
                made.near = number(0, 3);
            } else if (word.equals("last")) {
                i++;
                made.last = number(0, 99);
            } else if (word.equals("step")) {
                i++;
                made.step = number(1, 99);
            } else if (word.equals("mute")) {
                i++;
                must(look().matches("[a-z]{1,26}"), 1);
                must(unlike(look()), 3);
                made.mute = next();
            } else if (word.equals("same")) {
                must(made.groups.size() < 8, 4);
                i++;
                must(look().matches("[a-z]{2,26}"), 1);
                must(unlike(look() + String.join("", made.groups)), 3);
                made.groups.add(next());
            } else if (word.equals("pair")) {
                must(made.pairs.size() < 8, 4);
                i++;
                must(look().matches("[a-z]{2}"), 1);
                must(!made.pairs.containsKey(look()), 3);
                String two = next();
                must(look().matches("[a-z]"), 1);
                made.pairs.put(two, next());
            } else {
                statementOfNames(word);
            }
        }

        private void statementOfNames(String word) {
            if (word.equals("street")) {
                must(made.streets.size() < 10, 4);
                i++;
                newNameHere();
                made.streets.add(new Street(next()));
            } else if (word.equals("house")) {
                i++;
                Street street = made.streets.get(streetHere());
                must(street.houses.size() < 12, 4);
                i++;
                must(look().equals("left") || look().equals("right"), 1);
                int side = next().equals("left") ? 0 : 1;
                int yards = number(0, 9999);
                i--;
                must(street.houses.stream().noneMatch(h -> h.side == side && h.yards == yards), 3);
                i++;
                street.houses.add(new House(side, yards, number(1, 999)));
            } else if (word.equals("alias")) {
                must(made.aliases.size() < 12, 4);
                i++;
                newNameHere();
                String name = next();
                isWord("of");
                made.aliases.add(new Alias(name, streetHere(), 0));
                i++;
            } else if (word.equals("pool")) {
                i++;
                do {
                    newNameHere();
                    must(made.pool.size() < 12, 4);
                    made.pool.add(next());
                } while (!look().equals(";"));
            } else {
                throw fault(1);
            }
        }
    }

    int faultOf(int what) {
        return what == 0 ? fault : what == 1 ? place : -1;
    }

    int has(int what) {
        int houses = 0;
        for (Street street : now.streets) {
            houses += street.houses.size();
        }
        int[] all = {now.streets.size(), now.pool.size(), now.aliases.size(), houses, now.year, now.near, now.last,
            now.step, now.groups.size(), now.pairs.size(), now.mute.length(), past.size()};
        return what < 0 || what >= all.length ? -1 : all[what];
    }

    // ---- names

    private String name(int kind, int k) {
        List<String> names = new ArrayList<>();
        if (kind == 0) {
            now.streets.forEach(s -> names.add(s.name));
        } else if (kind == 1) {
            names.addAll(now.pool);
        } else if (kind == 2) {
            now.aliases.forEach(a -> names.add(a.name));
        }
        return k < 0 || k >= names.size() ? null : names.get(k);
    }

    String keyOf(String name) {
        StringBuilder paired = new StringBuilder();
        for (int i = 0; i < name.length();) {
            String two = i + 2 <= name.length() ? name.substring(i, i + 2) : "";
            if (now.pairs.containsKey(two)) {
                paired.append(now.pairs.get(two));
                i += 2;
            } else {
                paired.append(name.charAt(i));
                i++;
            }
        }
        String told = paired.toString();
        String kept = told.substring(0, 1);
        for (char c : told.substring(1).toCharArray()) {
            if (now.mute.indexOf(c) < 0) {
                kept += c;
            }
        }
        for (String group : now.groups) {
            kept = kept.replaceAll("[" + group + "]", group.substring(0, 1));
        }
        return kept.replaceAll("(.)\\1+", "$1");
    }

    private final Map<String, Integer> known = new HashMap<>();

    int changesOf(String a, String b) {
        if (a.isEmpty() || b.isEmpty()) {
            return a.length() + b.length();
        }
        Integer told = known.get(a + " " + b);
        if (told != null) {
            return told;
        }
        String restA = a.substring(1);
        String restB = b.substring(1);
        int least;
        if (a.charAt(0) == b.charAt(0)) {
            least = changesOf(restA, restB);
        } else {
            least = 1 + Math.min(changesOf(restA, restB), Math.min(changesOf(restA, b), changesOf(a, restB)));
        }
        known.put(a + " " + b, least);
        return least;
    }

    int alikeOf(String a, String b) {
        return (keyOf(a).equals(keyOf(b)) ? 1 : 0) + (changesOf(a, b) <= now.near ? 2 : 0);
    }

    private static int letterOf(String word, int i) {
        if (word == null || i < 0 || i > 9) {
            return -1;
        }
        return i < word.length() ? word.charAt(i) - 'a' + 1 : 0;
    }

    int letter(int kind, int k, int i) {
        return letterOf(name(kind, k), i);
    }

    int key(int kind, int k, int i) {
        String name = name(kind, k);
        return name == null ? -1 : letterOf(keyOf(name), i);
    }

    int changes(int kind, int k, int other, int n) {
        String a = name(kind, k);
        String b = name(other, n);
        return a == null || b == null ? -1 : changesOf(a, b);
    }

    int alike(int kind, int k, int other, int n) {
        String a = name(kind, k);
        String b = name(other, n);
        return a == null || b == null ? -1 : alikeOf(a, b);
    }

    private boolean isLive(Alias a, int year) {
        return year <= a.last;
    }

    int alias(int k, int what) {
        if (k < 0 || k >= now.aliases.size()) {
            return -1;
        }
        Alias a = now.aliases.get(k);
        return what == 0 ? a.street : what == 1 ? a.last : what == 2 ? isLive(a, now.year) ? 1 : 0 : -1;
    }

    private String wordOnTape() {
        String word = tape;
        tape = "";
        return word.matches("[a-z]{1,10}") && !word.contains("\n") && !OWN.contains(word) ? word : null;
    }

    int heard() {
        String word = wordOnTape();
        if (word == null) {
            return -1;
        }
        heard = keyOf(word);
        return heard.length();
    }

    int heardAt(int i) {
        return i < 0 || i >= heard.length() ? -1 : heard.charAt(i) - 'a' + 1;
    }

    private int meant(String word, int year) {
        for (int s = 0; s < now.streets.size(); s++) {
            if (now.streets.get(s).name.equals(word)) {
                return 100 + s;
            }
        }
        for (Alias a : now.aliases) {
            if (a.name.equals(word) && isLive(a, year)) {
                return 200 + a.street;
            }
        }
        for (int s = 0; s < now.streets.size(); s++) {
            if (keyOf(now.streets.get(s).name).equals(keyOf(word))) {
                return 300 + s;
            }
        }
        for (int apart = 0; apart <= now.near; apart++) {
            for (int s = 0; s < now.streets.size(); s++) {
                if (changesOf(now.streets.get(s).name, word) == apart) {
                    return 400 + s;
                }
            }
        }
        return -1;
    }

    int find() {
        String word = wordOnTape();
        return word == null ? -1 : meant(word, now.year);
    }

    int fades() {
        String word = wordOnTape();
        if (word == null) {
            return -1;
        }
        for (int year = now.year; year <= 999; year++) {
            if (meant(word, year) == -1) {
                return year;
            }
        }
        return -1;
    }

    int nearest(int kind, int k, int what) {
        String name = name(kind, k);
        if (name == null || what < 0 || what > 1) {
            return -1;
        }
        for (int apart = 0; apart <= 10; apart++) {
            for (int s = 0; s < now.streets.size(); s++) {
                if (!(kind == 0 && s == k) && changesOf(name, now.streets.get(s).name) == apart) {
                    return what == 0 ? s : apart;
                }
            }
        }
        return -1;
    }

    // ---- clashes

    private boolean isStreet(int street) {
        return street >= 0 && street < now.streets.size();
    }

    private boolean isClash(int s, int t) {
        return alikeOf(now.streets.get(s).name, now.streets.get(t).name) != 0;
    }

    int clash(int k) {
        List<Integer> all = new ArrayList<>();
        for (int s = 0; s < now.streets.size(); s++) {
            for (int t = s + 1; t < now.streets.size(); t++) {
                if (isClash(s, t)) {
                    all.add(100 * s + t);
                }
            }
        }
        return k == -1 ? all.size() : k < 0 || k >= all.size() ? -1 : all.get(k);
    }

    int circle(int street) {
        if (!isStreet(street)) {
            return -1;
        }
        ArrayDeque<Integer> open = new ArrayDeque<>(List.of(street));
        int bits = 1 << street;
        while (!open.isEmpty()) {
            int s = open.pop();
            for (int t = 0; t < now.streets.size(); t++) {
                if ((bits >> t & 1) == 0 && isClash(s, t)) {
                    bits |= 1 << t;
                    open.push(t);
                }
            }
        }
        return bits;
    }

    int why(int street, int k) {
        if (!isStreet(street) || k < 0 || k >= now.pool.size()) {
            return -1;
        }
        String name = now.pool.get(k);
        if (now.streets.stream().anyMatch(s -> s.name.equals(name))) {
            return 1;
        }
        for (int s = 0; s < now.streets.size(); s++) {
            if (s != street && alikeOf(name, now.streets.get(s).name) != 0) {
                return 2;
            }
        }
        for (Alias a : now.aliases) {
            if (a.street != street && isLive(a, now.year) && alikeOf(name, a.name) != 0) {
                return 3;
            }
        }
        return now.aliases.size() >= 30 ? 4 : 0;
    }

    int takes(int street, int k) {
        if (!isStreet(street)) {
            return -1;
        }
        List<Integer> all = new ArrayList<>();
        for (int p = 0; p < now.pool.size(); p++) {
            if (why(street, p) == 0) {
                all.add(p);
            }
        }
        return k == -1 ? all.size() : k < 0 || k >= all.size() ? -1 : all.get(k);
    }

    private int housesOf(int bits) {
        int many = 0;
        for (int s = 0; s < now.streets.size(); s++) {
            many += (bits >> s & 1) * now.streets.get(s).houses.size();
        }
        return many;
    }

    /** The NAMES of the POOL by STREET (-1 for those that stay); null without a PLAN. */
    int[] thePlan() {
        List<Integer> sets = new ArrayList<>();
        for (int bits = 0; bits < 1 << now.streets.size(); bits++) {
            sets.add(bits);
        }
        sets.sort((a, b) -> {
            int byCount = Integer.compare(Integer.bitCount(a), Integer.bitCount(b));
            int byHouses = Integer.compare(housesOf(a), housesOf(b));
            return byCount != 0 ? byCount : byHouses != 0 ? byHouses : Integer.compare(a, b);
        });
        for (int bits : sets) {
            if (othersClash(bits)) {
                continue;
            }
            int[] got = new int[now.streets.size()];
            Arrays.fill(got, -1);
            if (fill(bits, 0, got)) {
                return got;
            }
        }
        return null;
    }

    private boolean othersClash(int bits) {
        for (int s = 0; s < now.streets.size(); s++) {
            for (int t = s + 1; t < now.streets.size(); t++) {
                if ((bits >> s & 1) == 0 && (bits >> t & 1) == 0 && isClash(s, t)) {
                    return true;
                }
            }
        }
        return false;
    }

    private boolean fill(int bits, int s, int[] got) {
        if (s == now.streets.size()) {
            return isWay(got);
        }
        if ((bits >> s & 1) == 0) {
            return fill(bits, s + 1, got);
        }
        for (int k = 0; k < now.pool.size(); k++) {
            got[s] = k;
            if (isWay(Arrays.copyOf(got, s + 1), bits) && fill(bits, s + 1, got)) {
                return true;
            }
        }
        got[s] = -1;
        return false;
    }

    private boolean isWay(int[] got) {
        int bits = 0;
        for (int s = 0; s < got.length; s++) {
            bits |= got[s] >= 0 ? 1 << s : 0;
        }
        return isWay(got, bits);
    }

    /** Whether NAMES that the first STREETS get are as the document asks. */
    private boolean isWay(int[] got, int bits) {
        List<String> then = new ArrayList<>();
        for (int s = 0; s < now.streets.size(); s++) {
            boolean isOpen = s >= got.length && (bits >> s & 1) == 1;
            boolean isNew = s < got.length && got[s] >= 0;
            then.add(isOpen ? null : isNew ? now.pool.get(got[s]) : now.streets.get(s).name);
        }
        for (int s = 0; s < got.length; s++) {
            for (int t = 0; t < then.size(); t++) {
                if (s != t && then.get(t) != null && alikeOf(then.get(s), then.get(t)) != 0) {
                    return false;
                }
            }
            if (got[s] < 0) {
                continue;
            }
            String name = then.get(s);
            for (int t = 0; t < now.streets.size(); t++) {
                String called = now.streets.get(t).name;
                if (called.equals(name) || t != s && (bits >> t & 1) == 1 && alikeOf(name, called) != 0) {
                    return false;
                }
            }
            for (Alias a : now.aliases) {
                if (a.street != s && isLive(a, now.year) && alikeOf(name, a.name) != 0) {
                    return false;
                }
            }
        }
        return true;
    }

    private static int bitsOf(int[] got) {
        int bits = 0;
        for (int s = 0; s < got.length; s++) {
            bits |= got[s] >= 0 ? 1 << s : 0;
        }
        return bits;
    }

    int plan(int what) {
        int[] got = thePlan();
        if (got == null) {
            return -1;
        }
        int bits = bitsOf(got);
        return what == 0 ? Integer.bitCount(bits) : what == 1 ? housesOf(bits) : what == 2 ? bits : -1;
    }

    int planned(int street) {
        int[] got = isStreet(street) ? thePlan() : null;
        return got == null ? -1 : got[street];
    }

    int least() {
        int least = now.streets.size();
        for (int bits = 0; bits < 1 << now.streets.size(); bits++) {
            if (!othersClash(bits)) {
                least = Math.min(least, Integer.bitCount(bits));
            }
        }
        return least;
    }

    // ---- houses

    int houses(int street) {
        return isStreet(street) ? now.streets.get(street).houses.size() : -1;
    }

    private House houseOf(int street, int h) {
        return h < 0 || h >= houses(street) ? null : now.streets.get(street).houses.get(h);
    }

    private static int low(House h, int step) {
        return h.yards / step * 2 + (h.side == 0 ? 1 : 2);
    }

    private List<House> side(int street, int side) {
        List<House> row = new ArrayList<>(now.streets.get(street).houses);
        row.removeIf(h -> h.side != side);
        row.sort((a, b) -> Integer.compare(a.yards, b.yards));
        return row;
    }

    int house(int street, int h, int what) {
        House it = houseOf(street, h);
        if (it == null || what < 0 || what > 4) {
            return -1;
        }
        return new int[] {it.side, it.yards, it.number, low(it, now.step), side(street, it.side).indexOf(it)}[what];
    }

    int at(int street, int number) {
        for (int h = 0; h < houses(street); h++) {
            if (houseOf(street, h).number == number) {
                return h;
            }
        }
        return -1;
    }

    private static boolean isInOrder(List<House> row, int[] numbers, int side, int step) {
        for (int i = 0; i < numbers.length; i++) {
            boolean rises = i == 0 || numbers[i] > numbers[i - 1];
            if (!rises || numbers[i] > 999 || numbers[i] < low(row.get(i), step) || numbers[i] % 2 == side) {
                return false;
            }
        }
        return true;
    }

    int ordered(int street) {
        if (!isStreet(street)) {
            return -1;
        }
        for (int side = 0; side < 2; side++) {
            List<House> row = side(street, side);
            if (!isInOrder(row, row.stream().mapToInt(h -> h.number).toArray(), side, now.step)) {
                return 0;
            }
        }
        return 1;
    }

    /** The numbers THEN of a side by yards; null when there is no way. Every set of those that stay is tried. */
    private int[] best(int street, int side, int step) {
        List<House> row = side(street, side);
        int[] best = null;
        for (int stay = 0; stay < 1 << row.size(); stay++) {
            int[] numbers = new int[row.size()];
            int latest = side - 1;
            for (int i = 0; i < numbers.length; i++) {
                latest = (stay >> i & 1) == 1 ? row.get(i).number : Math.max(latest + 2, low(row.get(i), step));
                numbers[i] = latest;
                if (latest % 2 == side) {
                    break;
                }
            }
            if (isInOrder(row, numbers, side, step) && (best == null || isBetter(row, numbers, best))) {
                best = numbers;
            }
        }
        return best;
    }

    private static int changed(List<House> row, int[] numbers) {
        int many = 0;
        for (int i = 0; i < numbers.length; i++) {
            many += row.get(i).number == numbers[i] ? 0 : 1;
        }
        return many;
    }

    private static boolean isBetter(List<House> row, int[] numbers, int[] best) {
        int fewer = changed(row, best) - changed(row, numbers);
        return fewer > 0 || fewer == 0 && Arrays.compare(numbers, best) < 0;
    }

    int stepped(int street, int step) {
        if (!isStreet(street) || step < 1 || step > 99) {
            return -1;
        }
        int[] left = best(street, 0, step);
        int[] right = best(street, 1, step);
        return left == null || right == null ? -1 : changed(side(street, 0), left) + changed(side(street, 1), right);
    }

    int fewest(int street) {
        return stepped(street, now.step);
    }

    int then(int street, int h) {
        House it = houseOf(street, h);
        if (it == null || fewest(street) == -1) {
            return -1;
        }
        return best(street, it.side, now.step)[side(street, it.side).indexOf(it)];
    }

    int would(int street, int side, int yards) {
        if (!isStreet(street) || side < 0 || side > 1 || yards < 0 || yards > 9999 || houses(street) >= 12) {
            return -1;
        }
        List<House> row = side(street, side);
        if (row.stream().anyMatch(h -> h.yards == yards)) {
            return -1;
        }
        for (int number = low(new House(side, yards, 0), now.step); number <= 999; number += 2) {
            int n = number;
            if (row.stream().allMatch(h -> h.yards < yards ? h.number < n : h.number > n)) {
                return number;
            }
        }
        return -1;
    }

    int gaps(int street, int side) {
        if (!isStreet(street) || side < 0 || side > 1) {
            return -1;
        }
        Set<Integer> used = new HashSet<>();
        for (House h : side(street, side)) {
            if (h.number % 2 != side) {
                used.add(h.number);
            }
        }
        int greatest = used.stream().mapToInt(n -> n).max().orElse(0);
        int many = 0;
        for (int number = 1; number <= greatest; number++) {
            many += number % 2 != side && !used.contains(number) ? 1 : 0;
        }
        return many;
    }

    // ---- acts

    private void remember() {
        past.addLast(now.copy());
        if (past.size() > 20) {
            past.removeFirst();
        }
    }

    private void rename(State state, int street, int k) {
        String name = state.pool.get(k);
        state.aliases.add(new Alias(state.streets.get(street).name, street, state.year + state.last));
        state.streets.get(street).name = name;
        state.aliases.removeIf(a -> a.street == street && a.name.equals(name) && isLive(a, state.year));
    }

    int take(int street, int k) {
        if (why(street, k) != 0) {
            return refuse(2);
        }
        remember();
        rename(now, street, k);
        return now.aliases.size();
    }

    int carry() {
        int[] got = thePlan();
        if (got == null) {
            return refuse(2);
        }
        State then = now.copy();
        for (int s = 0; s < got.length; s++) {
            if (got[s] >= 0) {
                rename(then, s, got[s]);
            }
        }
        if (then.aliases.size() > 30) {
            return refuse(2);
        }
        remember();
        now = then;
        return Integer.bitCount(bitsOf(got));
    }

    int renumber(int street) {
        int many = fewest(street);
        if (many == -1) {
            return refuse(2);
        }
        remember();
        for (int side = 0; side < 2; side++) {
            int[] numbers = best(street, side, now.step);
            List<House> row = side(street, side);
            for (int i = 0; i < numbers.length; i++) {
                row.get(i).number = numbers[i];
            }
        }
        return many;
    }

    int build(int street, int side, int yards) {
        int number = would(street, side, yards);
        if (number == -1) {
            return refuse(2);
        }
        remember();
        now.streets.get(street).houses.add(new House(side, yards, number));
        return number;
    }

    int tear(int street, int h) {
        if (houseOf(street, h) == null) {
            return refuse(2);
        }
        remember();
        now.streets.get(street).houses.remove(h);
        return houses(street);
    }

    int years(int n) {
        if (n < 1 || n > 99 || now.year + n > 999) {
            return refuse(2);
        }
        remember();
        now.year += n;
        now.aliases.removeIf(a -> !isLive(a, now.year));
        return now.year;
    }

    boolean undo() {
        if (past.isEmpty()) {
            refuse(3);
            return false;
        }
        now = past.removeLast();
        return true;
    }

    // ---- costs, images

    private static long told(java.math.BigInteger cost) {
        return cost.bitLength() > 63 ? -2 : cost.longValue();
    }

    private java.math.BigInteger costOf(int street, long rate) {
        Street it = now.streets.get(street);
        return java.math.BigInteger.valueOf(rate)
            .multiply(java.math.BigInteger.valueOf((long) it.houses.size() * it.name.length()));
    }

    long cost(int street, long rate) {
        return rate < 0 || !isStreet(street) ? -1 : told(costOf(street, rate));
    }

    long bill(long rate) {
        int[] got = rate < 0 ? null : thePlan();
        if (got == null) {
            return -1;
        }
        java.math.BigInteger sum = java.math.BigInteger.ZERO;
        for (int s = 0; s < got.length; s++) {
            sum = got[s] >= 0 ? sum.add(costOf(s, rate)) : sum;
        }
        return told(sum);
    }

    boolean keep(int k) {
        if (k < 0 || k > 1) {
            refuse(4);
            return false;
        }
        images[k] = now.copy();
        return true;
    }

    boolean back(int k) {
        if (k < 0 || k > 1 || images[k] == null) {
            refuse(4);
            return false;
        }
        now = images[k].copy();
        past.clear();
        return true;
    }

    int status(int what) {
        return what < 0 || what > 4 ? -1 : refused[what];
    }
}
