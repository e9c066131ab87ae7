import java.util.ArrayDeque;
import java.util.ArrayList;
import java.util.Comparator;
import java.util.Deque;
import java.util.HashMap;
import java.util.List;
import java.util.Map;
import java.util.Set;
import java.util.TreeSet;
import java.util.stream.Collectors;
import java.util.stream.IntStream;

/**
 * The document once more, written for plainness alone, with the Java library and another way through each promise
 * than the class takes, so that a slip in one is not a slip in both.
 */
final class Model {
    private record Joining(int a, int b, int c) { }

    private record Talk(int a, int b, int minutes) { }

    private record Fault(int at, int kind) { }

    private record Token(int at, char kind, String text) { }

    private record Asked(Set<Integer> set, int how, boolean yes) { }

    private record Entry(int idea, int is) { }

    private record State(Set<Integer> registered, List<Set<Integer>> minds, Set<Integer> gone, int paid, int minutes) { }

    private record Image(State state, long seed) { }

    private final StringBuilder text = new StringBuilder();
    private int faultAt = Checks.NONE;
    private boolean there;
    private int gate;
    private int risk;
    private List<Integer> sizes = new ArrayList<>();
    private List<Joining> joinings = new ArrayList<>();
    private List<Talk> talks = new ArrayList<>();
    private State now = new State(Set.of(), List.of(), Set.of(), 0, 0);
    private final Deque<State> past = new ArrayDeque<>();
    private final Map<Integer, Image> images = new HashMap<>();
    private final List<Asked> asked = new ArrayList<>();
    private final List<Entry> book = new ArrayList<>();
    private long seed;

    // ---- the text

    int feed(int letter) {
        if (letter < 0 || letter > 255) {
            return Checks.OUTSIDE;
        }
        if (text.length() == 240) {
            return Checks.FULL;
        }
        text.append((char) letter);
        return text.length();
    }

    int thePass() {
        Model fresh = new Model();
        List<Fault> faults = fresh.learn(text.toString());
        text.setLength(0);
        faultAt = Checks.NONE;
        if (!faults.isEmpty()) {
            Fault first = faults.stream().min(Comparator.comparingInt(Fault::at).thenComparingInt(Fault::kind)).get();
            faultAt = first.at();
            return -10 - first.kind();
        }
        there = fresh.there;
        gate = fresh.gate;
        risk = fresh.risk;
        sizes = fresh.sizes;
        joinings = fresh.joinings;
        talks = fresh.talks;
        now = fresh.now;
        past.clear();
        images.clear();
        asked.clear();
        book.clear();
        return sizes.size();
    }

    private static List<Token> tokens(String text) {
        List<Token> all = new ArrayList<>();
        int k = 0;
        while (k < text.length()) {
            int from = k;
            char c = text.charAt(k++);
            if (c >= '0' && c <= '9') {
                while (k < text.length() && text.charAt(k) >= '0' && text.charAt(k) <= '9') {
                    k++;
                }
                all.add(new Token(from, 'n', text.substring(from, k)));
            } else if (c != ' ') {
                all.add(new Token(from, 'l', String.valueOf(c)));
            }
        }
        all.add(new Token(text.length(), 'e', ""));
        return all;
    }

    private static final Map<String, String> NEEDS = Map.of("g", "WQ", "i", "S", "j", "AAC", "d", "ABT", "r", "R", "t", "M");

    /** Every fault up to the first clause that has one. */
    private List<Fault> learn(String whole) {
        List<Token> tokens = tokens(whole);
        List<Fault> faults = new ArrayList<>();
        Map<String, Integer> counts = new HashMap<>();
        Map<String, Integer> most = Map.of("g", 1, "i", 8, "j", 10, "d", 10, "r", 999, "t", 5);
        Set<Integer> registered = new TreeSet<>();
        List<Set<Integer>> minds = new ArrayList<>();
        int k = 0;
        while (faults.isEmpty() && tokens.get(k).kind() != 'e') {
            Token word = tokens.get(k);
            if (!NEEDS.containsKey(word.text()) || k == 0 && !word.text().equals("g")) {
                faults.add(new Fault(word.at(), 1));
                break;
            }
            if (counts.merge(word.text(), 1, Integer::sum) > most.get(word.text())) {
                faults.add(new Fault(word.at(), 3));
            }
            List<Integer> values = new ArrayList<>();
            for (char need : NEEDS.get(word.text()).toCharArray()) {
                k++;
                Token token = tokens.get(k);
                if (token.kind() != 'n') {
                    faults.add(new Fault(token.at(), 1));
                    break;
                }
                int value = token.text().length() > 3 ? 1000000 : Integer.parseInt(token.text());
                faults.addAll(faultsOf(need, value, token.at(), values, registered));
                values.add(value);
            }
            if (faults.isEmpty()) {
                k++;
                if (!tokens.get(k).text().equals(";")) {
                    faults.add(new Fault(tokens.get(k).at(), 1));
                } else {
                    take(word.text(), values, registered, minds);
                }
                k++;
            }
        }
        now = new State(registered, minds, Set.of(), 0, 0);
        return faults;
    }

    private List<Fault> faultsOf(char need, int value, int at, List<Integer> before, Set<Integer> registered) {
        int least = "WST".indexOf(need) >= 0 ? 1 : 0;
        int greatest = switch (need) {
            case 'W' -> 999;
            case 'Q', 'S', 'T' -> 99;
            case 'M' -> (int) Math.pow(2, sizes.size()) - 1;
            default -> sizes.size() - 1;
        };
        List<Fault> found = new ArrayList<>();
        if (value < least || value > greatest) {
            found.add(new Fault(at, 2));
        }
        boolean known = value >= 0 && value < sizes.size() && before.stream().allMatch(x -> x < sizes.size());
        boolean contrary = need == 'C' && before.contains(value)
                || need == 'B' && known && (before.contains(value) || sizes.get(value) > sizes.get(before.get(0)))
                || need == 'R' && registered.contains(value);
        if (contrary) {
            found.add(new Fault(at, 4));
        }
        return found;
    }

    private void take(String word, List<Integer> v, Set<Integer> registered, List<Set<Integer>> minds) {
        switch (word) {
            case "g" -> {
                there = true;
                gate = v.get(0);
                risk = v.get(1);
            }
            case "i" -> sizes.add(v.get(0));
            case "j" -> joinings.add(new Joining(v.get(0), v.get(1), v.get(2)));
            case "d" -> talks.add(new Talk(v.get(0), v.get(1), v.get(2)));
            case "r" -> registered.add(v.get(0));
            default -> minds.add(members(v.get(0)));
        }
    }

    int fault() {
        return faultAt;
    }

    // ---- sets

    private static Set<Integer> members(int set) {
        return IntStream.range(0, 8).filter(k -> (set >> k) % 2 == 1).boxed().collect(Collectors.toCollection(TreeSet::new));
    }

    private static int number(Set<Integer> set) {
        return set.stream().mapToInt(k -> (int) Math.pow(2, k)).sum();
    }

    private static Set<Integer> less(Set<Integer> set, Set<Integer> others) {
        Set<Integer> rest = new TreeSet<>(set);
        rest.removeAll(others);
        return rest;
    }

    private static Set<Integer> union(Set<Integer> set, Set<Integer> others) {
        Set<Integer> all = new TreeSet<>(set);
        all.addAll(others);
        return all;
    }

    private int allSets() {
        return (int) Math.pow(2, sizes.size());
    }

    private boolean noSet(int set) {
        return set < 0 || set >= allSets();
    }

    private boolean noIdea(int i) {
        return i < 0 || i >= sizes.size();
    }

    private boolean noTraveller(int t) {
        return t < 0 || t >= now.minds().size();
    }

    private int sizeOf(Set<Integer> set) {
        return set.stream().mapToInt(sizes::get).sum();
    }

    private Set<Integer> closure(Set<Integer> set) {
        Set<Integer> all = new TreeSet<>(set);
        boolean more = true;
        while (more) {
            more = false;
            for (Joining j : joinings) {
                more |= all.contains(j.a()) && all.contains(j.b()) && all.add(j.c());
            }
        }
        return all;
    }

    private Set<Integer> country() {
        return closure(now.registered());
    }

    private int due(Set<Integer> set, Set<Integer> country) {
        int sum = 0;
        for (int i : less(set, country)) {
            sum += closure(less(set, Set.of(i))).contains(i) ? sizes.get(i) / 2 : sizes.get(i);
        }
        return sum;
    }

    private boolean gone(int t) {
        return now.gone().contains(t);
    }

    private boolean stuck(Set<Integer> mind) {
        return sizeOf(mind) > gate;
    }

    // ---- told

    int told(int what) {
        Set<Integer> waiting = new TreeSet<>();
        for (int t = 0; t < now.minds().size(); t++) {
            if (!gone(t) && stuck(now.minds().get(t))) {
                waiting.add(t);
            }
        }
        int[] all = {gate, risk, sizes.size(), joinings.size(), talks.size(), now.minds().size(), text.length(), number(now.registered()),
            number(country()), number(now.gone()), number(waiting), now.paid(), now.minutes(), asked.size(), book.size(), past.size()};
        return what < 0 || what > 15 ? Checks.OUTSIDE : all[what];
    }

    int size(int i) {
        return noIdea(i) ? Checks.UNKNOWN : sizes.get(i);
    }

    int traveller(int t, int what) {
        if (noTraveller(t)) {
            return Checks.UNKNOWN;
        }
        Set<Integer> mind = now.minds().get(t);
        return switch (what) {
            case 0 -> number(mind);
            case 1 -> sizeOf(mind);
            case 2 -> due(mind, country());
            case 3 -> gone(t) ? 1 : 0;
            default -> Checks.OUTSIDE;
        };
    }

    // ---- done

    private void remember() {
        past.push(now);
        if (past.size() > 20) {
            past.removeLast();
        }
    }

    private void leave(int t, boolean brings, int pays) {
        Set<Integer> registered = brings ? union(now.registered(), now.minds().get(t)) : now.registered();
        now = new State(registered, now.minds(), union(now.gone(), Set.of(t)), Math.min(999999, now.paid() + pays), now.minutes());
    }

    private void mind(int t, Set<Integer> mind, Set<Integer> gone, int minutes) {
        List<Set<Integer>> minds = new ArrayList<>(now.minds());
        minds.set(t, mind);
        now = new State(now.registered(), minds, gone, now.paid(), Math.min(999999, now.minutes() + minutes));
    }

    int pass(int t) {
        if (noTraveller(t)) {
            return Checks.UNKNOWN;
        }
        if (gone(t) || stuck(now.minds().get(t))) {
            return Checks.NOT;
        }
        int pays = traveller(t, 2);
        remember();
        leave(t, true, pays);
        return pays;
    }

    int goRound(int t, boolean through) {
        if (noTraveller(t)) {
            return Checks.UNKNOWN;
        }
        if (gone(t)) {
            return Checks.NOT;
        }
        boolean news = !country().containsAll(now.minds().get(t));
        remember();
        leave(t, through, 0);
        return news && through ? 1 : 0;
    }

    int talk(int t, int a, int b) {
        if (noTraveller(t) || noIdea(a) || noIdea(b)) {
            return Checks.UNKNOWN;
        }
        var minutes = talks.stream().filter(d -> d.a() == a && d.b() == b).mapToInt(Talk::minutes).min();
        if (gone(t) || !now.minds().get(t).contains(a) || minutes.isEmpty()) {
            return Checks.NOT;
        }
        remember();
        mind(t, union(less(now.minds().get(t), Set.of(a)), Set.of(b)), now.gone(), minutes.getAsInt());
        return minutes.getAsInt();
    }

    int come(int t, int ideas) {
        if (noTraveller(t) || noSet(ideas)) {
            return Checks.UNKNOWN;
        }
        if (!gone(t)) {
            return Checks.NOT;
        }
        remember();
        mind(t, members(ideas), less(now.gone(), Set.of(t)), 0);
        return due(members(ideas), country());
    }

    int register(int i, boolean is) {
        if (noIdea(i)) {
            return Checks.UNKNOWN;
        }
        boolean was = now.registered().contains(i);
        remember();
        Set<Integer> registered = is ? union(now.registered(), Set.of(i)) : less(now.registered(), Set.of(i));
        now = new State(registered, now.minds(), now.gone(), now.paid(), now.minutes());
        return was ? 1 : 0;
    }

    private int draw(int n) {
        seed = (seed * 1103515245L + 12345L) % 2147483648L;
        return (int) (seed / 65536 % n);
    }

    int drift(int n) {
        if (n < 1 || n > 60) {
            return Checks.OUTSIDE;
        }
        if (!there) {
            return Checks.NOT;
        }
        remember();
        for (int day = 0; day < n && !sizes.isEmpty() && !now.minds().isEmpty(); day++) {
            int t = draw(now.minds().size());
            Set<Integer> mind = members(draw(allSets()));
            mind(t, mind, less(now.gone(), Set.of(t)), 0);
            if (!stuck(mind)) {
                leave(t, true, due(mind, country()));
            } else {
                leave(t, draw(100) >= risk, 0);
            }
        }
        return now.paid();
    }

    int undo() {
        if (past.isEmpty()) {
            return Checks.NOT;
        }
        now = past.pop();
        return past.size();
    }

    // ---- tried

    int follows(int set) {
        return noSet(set) ? Checks.UNKNOWN : number(closure(members(set)));
    }

    int owed(int set) {
        return noSet(set) ? Checks.UNKNOWN : due(members(set), country());
    }

    int parts(int i, int what) {
        if (noIdea(i)) {
            return Checks.UNKNOWN;
        }
        if (what < 0 || what > 1) {
            return Checks.OUTSIDE;
        }
        var best = IntStream.range(0, allSets()).boxed()
                .filter(s -> !members(s).contains(i) && closure(union(now.registered(), members(s))).contains(i))
                .min(Comparator.<Integer>comparingInt(s -> sizeOf(members(s))).thenComparingInt(s -> s));
        return best.isEmpty() ? Checks.NONE : what == 0 ? best.get() : sizeOf(members(best.get()));
    }

    /** All ways without a return, one by one. */
    private List<List<Integer>> ways(int a, int b, List<Integer> behind) {
        List<List<Integer>> found = new ArrayList<>();
        List<Integer> way = new ArrayList<>(behind);
        way.add(a);
        if (a == b) {
            found.add(way);
            return found;
        }
        for (int next = 0; next < sizes.size(); next++) {
            if (!way.contains(next) && between(a, next) > 0) {
                found.addAll(ways(next, b, way));
            }
        }
        return found;
    }

    private int between(int a, int b) {
        return talks.stream().filter(d -> d.a() == a && d.b() == b).mapToInt(Talk::minutes).min().orElse(0);
    }

    private int minutesOf(List<Integer> way) {
        return IntStream.range(1, way.size()).map(k -> between(way.get(k - 1), way.get(k))).sum();
    }

    int talkDown(int a, int b, int what) {
        if (noIdea(a) || noIdea(b)) {
            return Checks.UNKNOWN;
        }
        if (what < 0 || what > 1) {
            return Checks.OUTSIDE;
        }
        // ways come in the order of their IDEAS, and min keeps the first of like ones
        var best = ways(a, b, List.of()).stream().min(Comparator.comparingInt(this::minutesOf));
        if (best.isEmpty()) {
            return Checks.NONE;
        }
        return what == 0 ? minutesOf(best.get()) : a == b ? Checks.NONE : best.get().get(1);
    }

    int soonest(int t) {
        if (noTraveller(t)) {
            return Checks.UNKNOWN;
        }
        if (gone(t)) {
            return Checks.NOT;
        }
        Map<Set<Integer>, Integer> reached = new HashMap<>(Map.of(now.minds().get(t), 0));
        for (int round = 0; round < 3; round++) {
            for (var entry : List.copyOf(new HashMap<>(reached).entrySet())) {
                for (Talk d : talks) {
                    if (entry.getKey().contains(d.a())) {
                        reached.merge(union(less(entry.getKey(), Set.of(d.a())), Set.of(d.b())), entry.getValue() + d.minutes(), Math::min);
                    }
                }
            }
        }
        return reached.entrySet().stream().filter(e -> !stuck(e.getKey())).mapToInt(Map.Entry::getValue).min().orElse(Checks.NONE);
    }

    int smallest(int what) {
        if (what == 0) {
            return IntStream.range(0, allSets()).boxed().filter(s -> closure(members(s)).equals(country()))
                    .min(Comparator.<Integer>comparingInt(s -> members(s).size()).thenComparingInt(s -> s)).get();
        }
        return what != 1 ? Checks.OUTSIDE : number(now.registered().stream()
                .filter(i -> closure(less(now.registered(), Set.of(i))).equals(country())).collect(Collectors.toSet()));
    }

    int better(int t, int v) {
        if (noTraveller(t)) {
            return Checks.UNKNOWN;
        }
        if (v < 0 || v > 9999) {
            return Checks.OUTSIDE;
        }
        if (gone(t)) {
            return Checks.NOT;
        }
        return !stuck(now.minds().get(t)) && traveller(t, 2) <= risk * v / 100 ? 0 : 1;
    }

    int gains(int t, int registered) {
        if (noTraveller(t) || noSet(registered)) {
            return Checks.UNKNOWN;
        }
        return gone(t) ? Checks.NOT : 1000 + traveller(t, 2) - due(now.minds().get(t), closure(members(registered)));
    }

    int free() {
        return number(less(country(), now.registered()));
    }

    int share(int t) {
        if (noTraveller(t)) {
            return Checks.UNKNOWN;
        }
        if (gone(t)) {
            return Checks.NOT;
        }
        int all = IntStream.range(0, now.minds().size()).filter(u -> !gone(u)).map(u -> traveller(u, 2)).sum();
        return all == 0 ? 0 : 1000 * traveller(t, 2) / all;
    }

    int glacier(int n) {
        if (n < 0 || n > 60) {
            return Checks.OUTSIDE;
        }
        return n == 0 ? 1000000000 : (int) ((long) glacier(n - 1) * (100 - risk) / 100);
    }

    // ---- asked

    int ask(int set, int how, boolean yes) {
        if (noSet(set)) {
            return Checks.UNKNOWN;
        }
        if (how < 0 || how > 10) {
            return Checks.OUTSIDE;
        }
        if (asked.size() == 6) {
            return Checks.FULL;
        }
        asked.add(new Asked(members(set), how, yes));
        return asked.size();
    }

    private List<Set<Integer>> fitting() {
        return IntStream.range(0, allSets()).mapToObj(Model::members).filter(m -> asked.stream().allMatch(q -> {
            long of = q.set().stream().filter(m::contains).count();
            boolean so = q.how() == 0 ? of > 0 : q.how() == 1 ? m.containsAll(q.set()) : of == q.how() - 2;
            return so == q.yes();
        })).toList();
    }

    int minds(int what) {
        List<Set<Integer>> all = fitting();
        return switch (what) {
            case 0 -> all.size();
            case 1 -> all.isEmpty() ? Checks.NONE : number(all.get(0));
            case 2 -> all.isEmpty() ? 0 : number(IntStream.range(0, sizes.size()).boxed()
                    .filter(i -> all.stream().allMatch(m -> m.contains(i))).collect(Collectors.toSet()));
            default -> Checks.OUTSIDE;
        };
    }

    int askNext() {
        List<Set<Integer>> all = fitting();
        int best = Checks.NONE;
        long bestPart = Long.MAX_VALUE;
        for (int i = 0; i < sizes.size(); i++) {
            final int idea = i;
            long with = all.stream().filter(m -> m.contains(idea)).count();
            long part = Math.max(with, all.size() - with);
            if (with > 0 && with < all.size() && part < bestPart) {
                best = i;
                bestPart = part;
            }
        }
        return best;
    }

    int write(int i, int is) {
        if (noIdea(i)) {
            return Checks.UNKNOWN;
        }
        if (is != 0 && is != 1) {
            return Checks.OUTSIDE;
        }
        if (book.size() == 15) {
            return Checks.FULL;
        }
        book.add(new Entry(i, is));
        return book.size();
    }

    int tear() {
        int both = asked.size() + book.size();
        asked.clear();
        book.clear();
        return both;
    }

    int judge() {
        return IntStream.range(0, book.size()).filter(k -> country().contains(book.get(k).idea()) != (book.get(k).is() == 1))
                .findFirst().orElse(Checks.NONE);
    }

    // ---- draws, images

    int seed(int v) {
        if (v < 0) {
            return Checks.OUTSIDE;
        }
        int was = (int) seed;
        seed = v;
        return was;
    }

    int keep(int i) {
        if (i != 0 && i != 1) {
            return Checks.UNKNOWN;
        }
        images.put(i, new Image(now, seed));
        past.clear();
        return 1;
    }

    int goBack(int i) {
        if (i != 0 && i != 1) {
            return Checks.UNKNOWN;
        }
        Image image = images.get(i);
        if (image == null) {
            return Checks.NOT;
        }
        now = image.state();
        seed = image.seed();
        past.clear();
        return 1;
    }
}
