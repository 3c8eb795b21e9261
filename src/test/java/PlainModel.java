import java.util.ArrayList;
import java.util.HashMap;
import java.util.HashSet;
import java.util.List;
import java.util.Map;
import java.util.Set;
import java.util.TreeSet;

/**
 * The document once more, in the plainest words: every beat is played, and after each deed the line is gone
 * through anew for one to let go, until nobody is. It leans on the Java library and shares nothing with MeetingKit.
 */
final class PlainModel {
    private static final int NONE = -1;
    private static final int[] LEAST = {0, 0, 0, 1, 0, 0, 0, 0, 0, 0, 0, 0};
    private static final int[] MOST = {100, 100, 100, 16, 0, 0, 8, 0, 0, 0, 0, 0};

    private static final class Part {
        final int number;
        final List<int[]> steps = new ArrayList<>();
        int begun = 0;
        Place waitsAt = null;
        boolean kept = false;
        boolean letGo = false;

        Part(int number) {
            this.number = number;
        }

        int[] now() {
            return steps.get(begun - 1);
        }
    }

    /** What stands where in a step. */
    private static final int DEVICE = 0;
    private static final int ACT = 1;
    private static final int A = 2;
    private static final int PATIENCE = 3;
    private static final int OUTCOME = 4;

    private static final class Place {
        final int number;
        final int kind;
        final int n;
        final List<Part> line = new ArrayList<>();
        final List<Integer> passed = new ArrayList<>();
        boolean closed = false;
        int closing = 0;
        int count;
        boolean flag = false;
        int owner = NONE;
        int second = 0;
        final Set<Integer> members = new HashSet<>();
        final Set<Integer> joined = new HashSet<>();
        final Set<Integer> came = new HashSet<>();
        final List<Integer> goods = new ArrayList<>();
        final Map<Integer, Integer> notes = new HashMap<>();

        Place(int number, int kind, int n) {
            this.number = number;
            this.kind = kind;
            this.n = n;
            this.count = kind <= 2 ? n : 0;
        }
    }

    private final List<Part> parts = new ArrayList<>();
    private final List<Place> places = new ArrayList<>();
    private final TreeSet<Integer> interrupts = new TreeSet<>();
    private int plans = 0;
    private int beat = 0;

    int device(int kind, int n) {
        if (places.size() == 12 || kind < 0 || kind > 11 || n < LEAST[kind] || n > MOST[kind]) {
            return NONE;
        }
        places.add(new Place(places.size(), kind, n));
        return places.size() - 1;
    }

    int thread() {
        if (parts.size() == 16) {
            return NONE;
        }
        parts.add(new Part(parts.size()));
        return parts.size() - 1;
    }

    private static boolean in(int i, List<?> list) {
        return i >= 0 && i < list.size();
    }

    int step(int thread, int device, int act, int a, int patience) {
        if (!in(thread, parts) || !in(device, places) || parts.get(thread).steps.size() == 20) {
            return NONE;
        }
        if (act < 0 || act > 9 || Math.abs((long) a) > 1000000 || patience < 0 || patience > 1000) {
            return NONE;
        }
        parts.get(thread).steps.add(new int[] {device, act, a, patience, 8, 0, 0, 0});
        return parts.get(thread).steps.size();
    }

    private boolean isPlannable(int when) {
        return when > beat && when <= 5000 && plans < 200;
    }

    boolean interrupt(int thread, int when) {
        if (!in(thread, parts) || !isPlannable(when) || !interrupts.add(when * 100 + thread)) {
            return false;
        }
        plans++;
        return true;
    }

    boolean close(int device, int when) {
        if (!in(device, places) || !isPlannable(when) || places.get(device).closing > 0) {
            return false;
        }
        places.get(device).closing = when;
        plans++;
        return true;
    }

    int run(int until) {
        if (until < beat || until > 5000) {
            return NONE;
        }
        while (beat < until && canHappen()) {
            beat++;
            play();
        }
        return beat;
    }

    private boolean canHappen() {
        for (Part part : parts) {
            boolean waits = part.waitsAt != null;
            if (waits ? part.now()[PATIENCE] > 0 : part.begun < part.steps.size()) {
                return true;
            }
        }
        for (Place place : places) {
            if (place.closing > beat) {
                return true;
            }
        }
        return interrupts.higher(beat * 100 + 99) != null;
    }

    private void play() {
        for (Part part : parts) {
            part.letGo = false;
        }
        for (Part part : parts) {
            if (interrupts.contains(beat * 100 + part.number)) {
                if (part.waitsAt == null) {
                    part.kept = true;
                } else {
                    goOut(part, 2);
                }
            }
        }
        for (Place place : places) {
            if (place.closing == beat) {
                place.closed = true;
                for (Part part : new ArrayList<>(place.line)) {
                    letGo(part, 4, 0);
                }
            }
        }
        for (Part part : parts) {
            if (part.waitsAt != null && part.now()[PATIENCE] > 0 && beat - part.now()[6] == part.now()[PATIENCE]) {
                goOut(part, 3);
            }
        }
        for (Part part : parts) {
            if (part.waitsAt == null && part.begun < part.steps.size() && !part.letGo) {
                begin(part);
            }
        }
    }

    private void begin(Part part) {
        part.begun++;
        part.now()[6] = beat;
        Place place = places.get(part.now()[DEVICE]);
        if (place.closed) {
            end(part, 4, 0);
            return;
        }
        act(place, part, part.now()[ACT], part.now()[A]);
        letOthersGo(place);
    }

    private void end(Part part, int outcome, int value) {
        part.now()[OUTCOME] = outcome;
        part.now()[5] = outcome == 0 ? value : 0;
        part.now()[7] = beat;
        if (outcome == 0) {
            places.get(part.now()[DEVICE]).passed.add(part.number);
        }
    }

    private void pass(Part part, int value) {
        end(part, 0, value);
    }

    private void letGo(Part part, int outcome, int value) {
        part.waitsAt.line.remove(part);
        part.waitsAt = null;
        part.letGo = true;
        end(part, outcome, value);
    }

    private void await(Place place, Part part) {
        part.now()[OUTCOME] = 1;
        part.waitsAt = place;
        place.line.add(part);
        if (part.kept) {
            part.kept = false;
            goOut(part, 2);
        }
    }

    private void goOut(Part part, int outcome) {
        Place place = part.waitsAt;
        letGo(part, outcome, 0);
        if (place.kind == 3) {
            place.flag = true;
            breakLine(place);
        }
        letOthersGo(place);
    }

    private void breakLine(Place place) {
        for (Part part : new ArrayList<>(place.line)) {
            letGo(part, 5, 0);
        }
    }

    private void act(Place place, Part part, int act, int a) {
        switch (place.kind) {
            case 0: case 1: permits(place, part, act, a); break;
            case 2: gate(place, part, act); break;
            case 3: barrier(place, part, act); break;
            case 4: exchange(place, part, act, a); break;
            case 5: lock(place, part, act); break;
            case 6: handOver(place, part, act, a); break;
            case 7: tickets(place, part, act, a); break;
            case 8: cell(place, part, act, a); break;
            case 9: phaser(place, part, act); break;
            case 10: pause(place, part, act); break;
            default: monitor(place, part, act, a); break;
        }
    }

    private void permits(Place place, Part part, int act, int a) {
        boolean none = place.kind == 1 && !place.line.isEmpty();
        if (act > 2 || a < 1 || a > 100 || act == 1 && place.count + a > 1000) {
            end(part, 6, 0);
        } else if (act == 1) {
            place.count += a;
            pass(part, place.count);
        } else if (!none && place.count >= a) {
            place.count -= a;
            pass(part, place.count);
        } else if (act == 0) {
            await(place, part);
        } else {
            end(part, 7, 0);
        }
    }

    private void gate(Place place, Part part, int act) {
        if (act > 1) {
            end(part, 6, 0);
        } else if (act == 1) {
            place.count -= place.count > 0 ? 1 : 0;
            pass(part, place.count);
        } else if (place.count == 0) {
            pass(part, 0);
        } else {
            await(place, part);
        }
    }

    private void barrier(Place place, Part part, int act) {
        if (act > 2) {
            end(part, 6, 0);
        } else if (act == 1) {
            breakLine(place);
            place.flag = false;
            pass(part, 0);
        } else if (act == 2) {
            pass(part, place.flag ? 1 : 0);
        } else if (place.flag) {
            end(part, 5, 0);
        } else if (place.line.size() == place.n - 1) {
            pass(part, place.n - 1);
            for (Part other : new ArrayList<>(place.line)) {
                letGo(other, 0, place.notes.get(other.number));
            }
        } else {
            place.notes.put(part.number, place.line.size());
            await(place, part);
        }
    }

    private void exchange(Place place, Part part, int act, int a) {
        if (act > 0) {
            end(part, 6, 0);
        } else if (place.line.isEmpty()) {
            await(place, part);
        } else {
            Part other = place.line.get(0);
            pass(part, other.now()[A]);
            letGo(other, 0, a);
        }
    }

    private Part upgrader(Place place) {
        return place.line.stream().filter(p -> p.now()[ACT] == 3).findFirst().orElse(null);
    }

    private void lock(Place place, Part part, int act) {
        boolean looks = place.members.contains(part.number);
        boolean uses = place.owner == part.number;
        boolean misuse = act > 4 || act <= 1 && (looks || uses) || act == 2 && !looks && !uses
                || act == 3 && (!looks || upgrader(place) != null) || act == 4 && !uses;
        if (misuse) {
            end(part, 6, 0);
        } else if (act == 2) {
            place.members.remove(part.number);
            place.owner = uses ? NONE : place.owner;
            pass(part, 0);
        } else if (act == 4) {
            place.owner = NONE;
            place.members.add(part.number);
            pass(part, 0);
        } else if (act == 3 ? place.members.size() == 1 : place.line.isEmpty() && isFree(place, act)) {
            enterLock(place, part, act);
            pass(part, 0);
        } else {
            await(place, part);
        }
    }

    private static boolean isFree(Place place, int act) {
        return place.owner == NONE && (act == 0 || place.members.isEmpty());
    }

    private static void enterLock(Place place, Part part, int act) {
        if (act == 0) {
            place.members.add(part.number);
        } else {
            place.members.remove(part.number);
            place.owner = part.number;
        }
    }

    private static Part firstWithAct(Place place, int act) {
        return place.line.stream().filter(p -> p.now()[ACT] == act).findFirst().orElse(null);
    }

    private void handOver(Place place, Part part, int act, int a) {
        Part other = firstWithAct(place, 1 - act);
        if (act > 1) {
            end(part, 6, 0);
        } else if (act == 0 && other != null) {
            pass(part, 0);
            letGo(other, 0, a);
        } else if (act == 0 && place.goods.size() < place.n) {
            place.goods.add(a);
            pass(part, 0);
        } else if (act == 1 && !place.goods.isEmpty()) {
            pass(part, place.goods.remove(0));
            if (other != null) {
                place.goods.add(other.now()[A]);
                letGo(other, 0, 0);
            }
        } else if (act == 1 && other != null) {
            pass(part, other.now()[A]);
            letGo(other, 0, 0);
        } else {
            await(place, part);
        }
    }

    private void tickets(Place place, Part part, int act, int a) {
        if (act > 2 || act == 1 && (a < 0 || a >= place.count)) {
            end(part, 6, 0);
        } else if (act == 0) {
            pass(part, place.count++);
        } else if (act == 2) {
            if (place.second == place.count) {
                end(part, 7, 0);
            } else {
                pass(part, place.second++);
            }
        } else if (a < place.second) {
            pass(part, 0);
        } else {
            await(place, part);
        }
    }

    private void cell(Place place, Part part, int act, int a) {
        if (act > 1 || act == 0 && place.flag) {
            end(part, 6, 0);
        } else if (act == 0) {
            place.flag = true;
            place.second = a;
            pass(part, 0);
        } else if (place.flag) {
            pass(part, place.second);
        } else {
            await(place, part);
        }
    }

    private void phaser(Place place, Part part, int act) {
        boolean isParty = place.members.contains(part.number);
        boolean isJoined = place.joined.contains(part.number);
        boolean misuse = act > 2 || act == 0 && (isParty || isJoined)
                || act == 1 && (!isParty || place.came.contains(part.number)) || act == 2 && !isParty && !isJoined;
        if (misuse) {
            end(part, 6, 0);
            return;
        }
        if (act == 0) {
            (place.came.isEmpty() ? place.members : place.joined).add(part.number);
            pass(part, place.count);
            return;
        }
        if (act == 1) {
            place.came.add(part.number);
        } else {
            place.members.remove(part.number);
            place.joined.remove(part.number);
            place.came.remove(part.number);
        }
        boolean isNew = !place.members.isEmpty() && place.came.equals(place.members);
        if (isNew) {
            place.count++;
            place.came.clear();
            place.members.addAll(place.joined);
            place.joined.clear();
        }
        if (act == 1 && !isNew) {
            await(place, part);
            return;
        }
        pass(part, place.count);
        if (isNew) {
            for (Part other : new ArrayList<>(place.line)) {
                letGo(other, 0, place.count);
            }
        }
    }

    private void pause(Place place, Part part, int act) {
        if (act > 2) {
            end(part, 6, 0);
        } else if (act < 2) {
            place.flag = act == 0;
            pass(part, 0);
        } else if (place.flag) {
            await(place, part);
        } else {
            pass(part, 0);
        }
    }

    private Part firstInLine(Place place, int which) {
        return place.line.stream().filter(p -> place.notes.get(p.number) == which).findFirst().orElse(null);
    }

    private void monitor(Place place, Part part, int act, int a) {
        boolean holds = place.owner == part.number;
        if (act > 4 || act == 0 && holds || act > 0 && !holds || act > 1 && (a < 0 || a > 3)) {
            end(part, 6, 0);
        } else if (act == 0 && place.owner == NONE && firstInLine(place, NONE) == null) {
            place.owner = part.number;
            pass(part, 0);
        } else if (act == 1) {
            place.owner = NONE;
            pass(part, 0);
        } else if (act == 0 || act == 2) {
            place.owner = act == 2 ? NONE : place.owner;
            place.notes.put(part.number, act == 2 ? a : NONE);
            await(place, part);
        } else {
            int woken = 0;
            for (Part other = firstInLine(place, a); other != null; other = act == 4 ? firstInLine(place, a) : null) {
                place.notes.put(other.number, NONE);
                place.line.remove(other);
                place.line.add(other);
                woken++;
            }
            pass(part, woken);
        }
    }

    private void letOthersGo(Place place) {
        boolean more = true;
        while (more) {
            more = false;
            for (Part part : place.line) {
                if (goesNow(place, part)) {
                    letGo(part, 0, valueOf(place, part));
                    more = true;
                    break;
                }
            }
        }
    }

    private boolean goesNow(Place place, Part part) {
        int a = part.now()[A];
        boolean isFirst = place.line.get(0) == part;
        switch (place.kind) {
            case 0: return a <= place.count;
            case 1: return isFirst && a <= place.count;
            case 2: return place.count == 0;
            case 5:
                if (upgrader(place) != null) {
                    return upgrader(place) == part && place.members.size() == 1;
                }
                return isFirst && isFree(place, part.now()[ACT]);
            case 7: return a < place.second;
            case 8: return place.flag;
            case 10: return !place.flag;
            case 11: return place.owner == NONE && firstInLine(place, NONE) == part;
            default: return false;
        }
    }

    private int valueOf(Place place, Part part) {
        switch (place.kind) {
            case 0: case 1:
                place.count -= part.now()[A];
                return place.count;
            case 5:
                enterLock(place, part, part.now()[ACT]);
                return 0;
            case 8:
                return place.second;
            case 11:
                place.owner = part.number;
                return 0;
            default:
                return 0;
        }
    }

    int tell(int thread, int what) {
        if (!in(thread, parts) || what < 0 || what > 3) {
            return NONE;
        }
        Part part = parts.get(thread);
        int at = part.waitsAt == null ? NONE : part.waitsAt.number;
        return new int[] {part.steps.size(), part.begun, at, part.kept ? 1 : 0}[what];
    }

    int outcome(int thread, int i, int what) {
        if (!in(thread, parts) || !in(i, parts.get(thread).steps) || what < 0 || what > 3) {
            return NONE;
        }
        return parts.get(thread).steps.get(i)[OUTCOME + what];
    }

    int state(int device, int what) {
        if (!in(device, places) || what < 0 || what > 4) {
            return NONE;
        }
        Place p = places.get(device);
        switch (what) {
            case 0: return p.kind;
            case 1: return p.line.size();
            case 2: return p.closed ? 1 : 0;
            case 3:
                return new int[] {p.count, p.count, p.count, p.line.size(), 0, p.members.size(), p.goods.size(),
                    p.count, p.flag ? 1 : 0, p.count, p.flag ? 1 : 0, p.owner == NONE ? 0 : 1}[p.kind];
            default:
                return new int[] {0, 0, 0, p.flag ? 1 : 0, 0, p.owner, 0,
                    p.second, p.second, p.members.size(), 0, p.owner}[p.kind];
        }
    }

    int waiting(int device, int i) {
        boolean is = in(device, places) && in(i, places.get(device).line);
        return is ? places.get(device).line.get(i).number : NONE;
    }

    int passed(int device, int i) {
        boolean is = in(device, places) && in(i, places.get(device).passed) && i < 300;
        return is ? places.get(device).passed.get(i) : NONE;
    }

    int stuck(int i) {
        List<Integer> all = new ArrayList<>();
        for (Part part : parts) {
            if (part.waitsAt != null) {
                all.add(part.number);
            }
        }
        return !canHappen() && in(i, all) ? all.get(i) : NONE;
    }
}
