import java.util.ArrayList;
import java.util.Arrays;
import java.util.List;
import java.util.regex.Matcher;
import java.util.regex.Pattern;

/**
 * The document once more, in a form as unlike the program's as can be (lists, a regular expression,
 * a table of seconds), to hold the program against by runs of calls drawn by numbers.
 */
final class Model {
    static final class Walker implements Cloneable {
        char kind;
        int number, start, yards, pace, bags, looks, worth;
        int comes, through, opens, stands, runs;
        Walker heldBy;

        Walker copy() {
            try {
                return (Walker) clone();
            } catch (CloneNotSupportedException e) {
                throw new IllegalStateException(e);
            }
        }

        int there() {
            return start + (int) Math.ceil((double) yards / pace);
        }

        int heldFor() {
            int runner = pace * 2;
            return switch (kind) {
                case 'r', 'o' -> runner;
                case 'h' -> runner + 1;
                case 'b' -> pace > bags ? pace - bags : 1;
                default -> pace;
            };
        }

        int gone() {
            return through + stands;
        }

        int loss() {
            return worth * opens + worth * stands + runs;
        }
    }

    record Film(int yards, int looks, int bags, int held) { }

    static final class World {
        int shuts = 4, heavy = 2, warmth = 1, custom = 1, far = 5;
        List<Walker> walkers = new ArrayList<>();
        List<Film> films = new ArrayList<>();

        World copy() {
            World w = new World();
            w.shuts = shuts;
            w.heavy = heavy;
            w.warmth = warmth;
            w.custom = custom;
            w.far = far;
            for (Walker walker : walkers) {
                w.walkers.add(walker.copy());
            }
            w.films.addAll(films);
            return w;
        }

        int reach(int custom, int far, int looks, int bags) {
            return far + (custom == 2 ? 4 * looks : 0) + (custom == 3 ? bags + bags : 0);
        }

        int reach(Walker one, Walker next, boolean held) {
            if (one.kind == 'o' || custom == 0) {
                return 0;
            }
            if (custom == 4) {
                return 40;
            }
            if (custom == 5) {
                return held ? far : 0;
            }
            if (custom == 6) {
                int so = far + 4 * next.looks + next.worth - one.worth;
                return so < 0 ? 0 : so;
            }
            return reach(custom, far, next.looks, next.bags);
        }

        /** It goes: the walkers in the order in which they are through. */
        List<Walker> go() {
            List<Walker> waiting = new ArrayList<>(walkers);
            waiting.sort((a, b) -> a.there() != b.there() ? a.there() - b.there() : a.number - b.number);
            List<Walker> passed = new ArrayList<>();
            int letGo = Integer.MIN_VALUE / 2;
            int gone = 0;
            while (!waiting.isEmpty()) {
                Walker one = waiting.remove(0);
                one.comes = Math.max(one.there(), gone);
                if (one.comes - letGo < shuts) {
                    one.opens = 0;
                } else {
                    one.opens = heavy + one.bags;
                    if (one.kind == 'c' && one.opens > 0) {
                        one.opens--;
                    }
                }
                one.through = one.comes + one.opens;
                one.heldBy = null;
                one.runs = 0;
                passed.add(one);
                Walker last = one;
                while (true) {
                    last.stands = 0;
                    if (waiting.isEmpty()) {
                        break;
                    }
                    Walker next = waiting.get(0);
                    int left = next.yards;
                    for (int second = next.start; second < last.through && left > -1000; second++) {
                        left -= next.pace;
                    }
                    if (next.start > last.through || left <= 0 || left > reach(last, next, last.heldBy != null)) {
                        break;
                    }
                    int needs = 0;
                    for (int gone2 = 0; gone2 < left; gone2 += next.heldFor()) {
                        needs++;
                    }
                    last.stands = needs;
                    waiting.remove(0);
                    next.comes = last.through + needs;
                    next.through = next.comes;
                    next.opens = 0;
                    next.heldBy = last;
                    next.runs = next.heldFor() > next.pace ? needs : 0;
                    passed.add(next);
                    last = next;
                }
                gone = last.gone();
                letGo = gone;
            }
            return passed;
        }

        int loss() {
            return go().stream().mapToInt(Walker::loss).sum();
        }

        int holds() {
            return (int) go().stream().filter(w -> w.heldBy != null).count();
        }

        int open() {
            boolean[] isOpen = new boolean[5000];
            List<Walker> passed = go();
            for (int i = 0; i < passed.size(); i++) {
                if (passed.get(i).heldBy != null) {
                    continue;
                }
                int last = i;
                while (last + 1 < passed.size() && passed.get(last + 1).heldBy != null) {
                    last++;
                }
                Arrays.fill(isOpen, passed.get(i).comes, passed.get(last).gone() + shuts, true);
            }
            int seconds = 0;
            for (boolean so : isOpen) {
                seconds += so ? 1 : 0;
            }
            return seconds;
        }
    }

    private static final String STATEMENT =
        "(d(\\d)(\\d)(\\d)|c(\\d)(\\d{1,2})|w([prhbco])(\\d{1,2}),(\\d{1,2}),(\\d)(\\d)(\\d)(\\d));";
    private static final Pattern ONE = Pattern.compile(STATEMENT);
    private static final Pattern ALL = Pattern.compile("(" + STATEMENT + ")+");

    World world = new World();
    World image = null;
    StringBuilder letters = new StringBuilder();
    List<Integer> row = new ArrayList<>();
    int[] refusals = new int[7];

    int refuse(int n) {
        refusals[-n]++;
        return n;
    }

    int letter(int c) {
        if (c < 0) {
            return refuse(-4);
        }
        if (c > 255 || letters.length() == 80) {
            return refuse(-6);
        }
        letters.append((char) c);
        return letters.length();
    }

    int way() {
        String text = letters.toString();
        letters.setLength(0);
        for (int i = 0; i < text.length(); i++) {
            Matcher m = ALL.matcher(text.substring(0, i + 1));
            if (!m.matches() && !m.hitEnd()) {
                return -1000 - i;
            }
        }
        if (!ALL.matcher(text).matches()) {
            return -1000 - text.length();
        }
        World next = world.copy();
        Matcher m = ONE.matcher(text);
        int statements = 0;
        while (m.find()) {
            if (!take(next, m)) {
                return -2000 - m.start();
            }
            statements++;
        }
        world = next;
        return statements;
    }

    private static int number(Matcher m, int group) {
        return Integer.parseInt(m.group(group));
    }

    private static boolean take(World w, Matcher m) {
        char first = m.group().charAt(0);
        if (first == 'd') {
            w.shuts = number(m, 2);
            w.heavy = number(m, 3);
            w.warmth = number(m, 4);
            return w.shuts > 0;
        }
        if (first == 'c') {
            w.custom = number(m, 5);
            w.far = number(m, 6);
            return w.custom < 7 && w.far < 41;
        }
        Walker one = new Walker();
        one.number = w.walkers.size();
        one.kind = m.group(7).charAt(0);
        one.start = number(m, 8);
        one.yards = number(m, 9);
        one.pace = number(m, 10);
        one.bags = number(m, 11);
        one.looks = number(m, 12);
        one.worth = number(m, 13);
        w.walkers.add(one);
        return w.walkers.size() <= 8 && one.yards > 0 && one.yards < 41 && one.pace > 0 && one.pace < 5
            && one.bags < 3 && one.looks < 2;
    }

    private boolean unknown(int walker) {
        return walker < 0 || walker >= world.walkers.size();
    }

    int walker(int walker, int what) {
        if (unknown(walker)) {
            return refuse(-1);
        }
        Walker w = world.walkers.get(walker);
        return switch (what) {
            case 0 -> "prhbco".indexOf(w.kind);
            case 1 -> w.start;
            case 2 -> w.yards;
            case 3 -> w.pace;
            case 4 -> w.bags;
            case 5 -> w.looks;
            case 6 -> w.worth;
            case 7 -> w.heldFor();
            default -> refuse(-2);
        };
    }

    int set(int what, int v) {
        int[] least = {1, 0, 0, 0};
        int[] most = {9, 9, 9, 40};
        if (what < 0 || what > 3) {
            return refuse(-2);
        }
        if (v < least[what]) {
            return refuse(-4);
        }
        if (v > most[what]) {
            return refuse(-6);
        }
        int was;
        if (what == 0) {
            was = world.shuts;
            world.shuts = v;
        } else if (what == 1) {
            was = world.heavy;
            world.heavy = v;
        } else if (what == 2) {
            was = world.warmth;
            world.warmth = v;
        } else {
            was = world.far;
            world.far = v;
        }
        return was;
    }

    int custom(int v) {
        if (v < 0 || v > 6) {
            return refuse(-2);
        }
        int was = world.custom;
        world.custom = v;
        return was;
    }

    int far(int one, int next, int held) {
        if (unknown(one) || unknown(next) || one == next) {
            return refuse(-1);
        }
        if (held < 0 || held > 1) {
            return refuse(-2);
        }
        return world.reach(world.walkers.get(one), world.walkers.get(next), held == 1);
    }

    /** Any call of the document's face by its name. */
    int call(String name, int... n) {
        return switch (name) {
            case "letter" -> letter(n[0]);
            case "way" -> way();
            case "walker" -> walker(n[0], n[1]);
            case "set" -> set(n[0], n[1]);
            case "custom" -> custom(n[0]);
            case "far" -> far(n[0], n[1], n[2]);
            case "order" -> order(n[0]);
            case "holds" -> world.holds();
            case "longest" -> longest();
            case "away" -> away();
            case "open" -> world.open();
            case "coals" -> world.open() * world.warmth;
            case "byOther" -> byOther(n[0], n[1]);
            case "bestFar" -> bestFar();
            case "bestCustom" -> bestCustom();
            case "bestShuts" -> bestShuts();
            case "worse" -> worse();
            case "followed" -> followed();
            case "porter" -> lossBy(0, world.far);
            case "alone" -> alone(n[0]);
            case "film" -> film(n[0], n[1], n[2], n[3]);
            case "told" -> told(n[0], n[1], n[2]);
            case "fitting" -> fitting(n[0], n[1]);
            case "seeds" -> seeds(n[0], n[1]);
            case "row" -> row(n[0]);
            case "judge" -> judge();
            case "image" -> image();
            case "on" -> on();
            case "count" -> count(n[0]);
            default -> ofWalker(name, n[0]);
        };
    }

    /** Promises 8 and 10 to 16. */
    int ofWalker(String call, int walker) {
        if (call.equals("loss") && walker == -1) {
            return world.loss();
        }
        if (unknown(walker)) {
            return refuse(-1);
        }
        world.go();
        Walker w = world.walkers.get(walker);
        return switch (call) {
            case "there" -> w.there();
            case "comes" -> w.comes;
            case "through" -> w.through;
            case "opens" -> w.opens;
            case "stands" -> w.stands;
            case "by" -> w.heldBy == null ? -9 : w.heldBy.number;
            case "runs" -> w.runs;
            case "loss" -> w.loss();
            default -> throw new IllegalStateException(call);
        };
    }

    int order(int i) {
        if (i < 0) {
            return refuse(-4);
        }
        return i < world.walkers.size() ? world.go().get(i).number : -9;
    }

    int longest() {
        return world.go().stream().mapToInt(w -> w.stands).max().orElse(0);
    }

    int away() {
        return world.walkers.isEmpty() ? -9 : world.go().get(0).gone();
    }

    int lossBy(int custom, int far) {
        World w = world.copy();
        w.custom = custom;
        w.far = far;
        return w.loss();
    }

    int byOther(int custom, int far) {
        if (custom < 0 || custom > 6) {
            return refuse(-2);
        }
        if (far < 0) {
            return refuse(-4);
        }
        return far > 40 ? refuse(-6) : lossBy(custom, far);
    }

    int bestFar() {
        int best = 40;
        for (int far = 39; far >= 0; far--) {
            best = lossBy(world.custom, far) <= lossBy(world.custom, best) ? far : best;
        }
        return best;
    }

    int bestCustom() {
        int best = 6;
        for (int custom = 5; custom >= 0; custom--) {
            best = lossBy(custom, world.far) <= lossBy(best, world.far) ? custom : best;
        }
        return best;
    }

    private int costWithShuts(int shuts) {
        World w = world.copy();
        w.shuts = shuts;
        return w.loss() + w.open() * w.warmth;
    }

    int bestShuts() {
        int best = 9;
        for (int shuts = 8; shuts >= 1; shuts--) {
            best = costWithShuts(shuts) <= costWithShuts(best) ? shuts : best;
        }
        return best;
    }

    int worse() {
        World never = world.copy();
        never.custom = 0;
        never.go();
        world.go();
        int bits = 0;
        for (Walker w : world.walkers) {
            bits += w.loss() > never.walkers.get(w.number).loss() ? 1 << w.number : 0;
        }
        return bits;
    }

    int followed() {
        world.go();
        int bits = 0;
        for (Walker w : world.walkers) {
            bits += w.kind != 'c' && w.opens == 0 ? 1 << w.number : 0;
        }
        return bits;
    }

    int alone(int walker) {
        if (unknown(walker)) {
            return refuse(-1);
        }
        World w = world.copy();
        w.walkers.remove(walker);
        return w.loss();
    }

    int film(int yards, int looks, int bags, int held) {
        if (yards < 1 || bags < 0) {
            return refuse(-4);
        }
        if (yards > 40 || bags > 2) {
            return refuse(-6);
        }
        if (looks < 0 || looks > 1 || held < 0 || held > 1) {
            return refuse(-2);
        }
        if (world.films.size() == 10) {
            return refuse(-6);
        }
        world.films.add(new Film(yards, looks, bags, held));
        return world.films.size();
    }

    int told(int yards, int looks, int bags) {
        int held = yards <= world.reach(world.custom, world.far, looks, bags) ? 1 : 0;
        if (world.custom >= 1 && world.custom <= 3) {
            int answer = film(yards, looks, bags, held);
            return answer < 0 ? answer : held;
        }
        int answer = film(yards, looks, bags, 0);
        if (answer < 0) {
            return answer;
        }
        world.films.remove(world.films.size() - 1);
        return refuse(-3);
    }

    int fitting(int custom, int what) {
        if (custom < 1 || custom > 3 || what < 0 || what > 2) {
            return refuse(-2);
        }
        List<Integer> fars = new ArrayList<>();
        for (int far = 0; far <= 40; far++) {
            boolean so = true;
            for (Film f : world.films) {
                boolean held = f.yards() <= world.reach(custom, far, f.looks(), f.bags());
                so &= held == (f.held() == 1);
            }
            if (so) {
                fars.add(far);
            }
        }
        if (what == 0) {
            return fars.size();
        }
        return fars.isEmpty() ? -9 : fars.get(what == 1 ? 0 : fars.size() - 1);
    }

    int seeds(int n, int z) {
        if (n < 1) {
            return refuse(-4);
        }
        if (n > 20) {
            return refuse(-6);
        }
        World w = world.copy();
        long seed = z;
        int held = 0;
        for (int i = 0; i < n; i++) {
            for (Walker walker : w.walkers) {
                seed = (seed * 1664525L + 1013904223L) & 0xffffffffL;
                walker.looks = (int) ((seed % 2147483648L) / 256 % 2);
            }
            held += w.holds();
        }
        return held;
    }

    int row(int v) {
        if (v < 0) {
            return refuse(-4);
        }
        if (v > 9 || row.size() == 8) {
            return refuse(-6);
        }
        row.add(v);
        return row.size();
    }

    int judge() {
        List<Walker> passed = world.go();
        int answer = -9;
        for (int i = 0; answer == -9 && i < 8; i++) {
            int is = i < row.size() ? row.get(i) : -1;
            int must = i < passed.size() ? passed.get(i).number : -1;
            if (is != must) {
                answer = i;
            }
        }
        row.clear();
        return answer;
    }

    int image() {
        image = world.copy();
        return world.walkers.size();
    }

    int on() {
        if (image == null) {
            return refuse(-3);
        }
        world = image.copy();
        return world.walkers.size();
    }

    int count(int what) {
        return switch (what) {
            case 0 -> world.walkers.size();
            case 1 -> world.shuts;
            case 2 -> world.heavy;
            case 3 -> world.warmth;
            case 4 -> world.custom;
            case 5 -> world.far;
            case 6 -> world.films.size();
            case 7 -> row.size();
            case 8 -> letters.length();
            case 11, 12, 13, 14, 15, 16 -> refusals[what - 10];
            default -> -9;
        };
    }
}
