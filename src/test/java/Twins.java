import java.util.ArrayList;
import java.util.Arrays;
import java.util.List;

/**
 * Two objects that are made alike: one is refused a call, the other is not asked at all. Whatever
 * is asked of both later has to be answered alike, as nothing changes by a refused call.
 */
final class Twins {
    /** Makes an object; every one that it makes is alike. */
    interface Made {
        IceInherited anew();
    }

    /** A call of the face. */
    interface Asked {
        int of(IceInherited ice);
    }

    private Twins() {
    }

    /** Compares the answer, then each way of looking at what there is behind it. */
    static void dueRefused(String call, Made made, Asked asked, int want) {
        for (Way way : Way.values()) {
            IceInherited refused = made.anew();
            IceInherited left = made.anew();
            Due.due(call, asked.of(refused), want);
            dueAlike(call + " changes nothing", way, refused, left);
        }
    }

    /** Objects that answer alike in every way of looking. */
    static void dueLike(String name, Made one, Made other) {
        for (Way way : Way.values()) {
            dueAlike(name, way, one.anew(), other.anew());
        }
    }

    private static void dueAlike(String name, Way way, IceInherited one, IceInherited other) {
        int[] seen = look(way, one);
        int[] wanted = look(way, other);
        int at = Arrays.mismatch(seen, wanted);
        Due.dueTrue(name + ": " + way + " answers otherwise at " + at, at < 0);
    }

    /** Each way asks an object of its own, as most of them change it, and 512 calls are all. */
    private enum Way { STATE, AHEAD, UNDONE, KEPT, TEXT, DRILLED }

    private static int[] look(Way way, IceInherited ice) {
        List<Integer> seen = new ArrayList<>();
        switch (way) {
            case STATE -> lookAtState(ice, seen);
            case AHEAD -> lookAhead(ice, seen);
            case UNDONE -> lookBack(ice, seen);
            case KEPT -> lookAtKept(ice, seen);
            case TEXT -> lookAtText(ice, seen);
            default -> lookAtDrilled(ice, seen);
        }
        return seen.stream().mapToInt(Integer::intValue).toArray();
    }

    private static void lookAtState(IceInherited ice, List<Integer> seen) {
        for (int what = 0; what <= 10; what++) {
            seen.add(ice.count(what));
        }
        for (int x = 0; x < ice.count(0); x++) {
            for (int what = 0; what <= 5; what++) {
                seen.add(ice.cell(x, what));
            }
        }
        for (int f = 0; f < 4; f++) {
            for (int what = 0; what <= 2; what++) {
                seen.add(ice.family(f, what));
            }
        }
        for (int t = 0; t <= 20; t++) {
            seen.add(ice.cold(t));
        }
        seen.add(ice.fault());
        seen.add(ice.across());
    }

    private static void lookAhead(IceInherited ice, List<Integer> seen) {
        int cells = ice.count(0);
        for (int x = 0; x < cells; x++) {
            seen.add(ice.behind(1, x, 0));
            seen.add(ice.behind(2, x, 1));
            seen.add(ice.behind(60, x, 0));
            seen.add(ice.falls(x, 3));
            seen.add(ice.toll(x % 4, 2, 0, x));
            seen.add(ice.shares(x, 0, 0));
            seen.add(ice.shares(x, 1, 1));
        }
        for (int f = 0; f < 4; f++) {
            seen.add(ice.wedding(f, 2, 2, 0));
            seen.add(ice.wedding(f, 1, 1, 1));
            seen.add(ice.straw(f, 1, 2, 5));
            seen.add(ice.split(f, 0));
            seen.add(ice.split(f, 1));
            seen.add(ice.winter(f, 20, f));
            seen.add(ice.winter(f, 2, -1));
        }
        seen.add(ice.landless(0));
        seen.add(ice.landless(1));
    }

    private static void lookBack(IceInherited ice, List<Integer> seen) {
        for (int i = 0; i <= 9; i++) {
            seen.add(ice.undo());
            lookShortly(ice, seen);
        }
    }

    private static void lookAtKept(IceInherited ice, List<Integer> seen) {
        for (int i = 0; i <= 3; i++) {
            seen.add(ice.back());
            seen.add(ice.count(8));
            lookShortly(ice, seen);
        }
    }

    private static void lookAtText(IceInherited ice, List<Integer> seen) {
        seen.add(ice.fault());
        // What stands in THE TEXT is seen by what it tells, alone and with more behind it.
        seen.add(ice.lay());
        lookAtState(ice, seen);
        for (char letter : ";k1,3;i5".toCharArray()) {
            seen.add(ice.write(letter));
            seen.add(ice.fault());
        }
        seen.add(ice.lay());
        lookShortly(ice, seen);
        seen.add(ice.wipe());
    }

    private static void lookAtDrilled(IceInherited ice, List<Integer> seen) {
        seen.add(ice.colds(0));
        seen.add(ice.colds(1));
        for (int i = 0; i <= 6; i++) {
            seen.add(ice.drill(1, 4));
            seen.add(ice.colds(0));
            seen.add(ice.colds(1));
        }
        seen.add(ice.forget());
        seen.add(ice.colds(0));
    }

    private static void lookShortly(IceInherited ice, List<Integer> seen) {
        seen.add(ice.count(3));
        for (int x = 0; x < Math.min(6, ice.count(0)); x++) {
            seen.add(ice.cell(x, 1));
            seen.add(ice.cell(x, 2));
        }
    }
}
