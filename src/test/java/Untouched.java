import java.util.ArrayList;
import java.util.List;
import java.util.function.Consumer;
import java.util.function.Supplier;
import java.util.function.ToLongFunction;

/**
 * "Changing nothing": an object on which a refused call was made goes on answering as its twin that was
 * spared the call. An object is good for 512 calls, so every part of the view gets a new pair.
 */
final class Untouched {
    private static final int LOOKS_OF_ONE_PAIR = 150;

    private record Call(String text, ToLongFunction<MeshedSpans> answer) {
    }

    private Untouched() {
    }

    /** All that can be seen, and what later calls do: these tell the draws and the next number. */
    static void due(Check check, String what, Supplier<MeshedSpans> scene, Consumer<MeshedSpans> refused) {
        dueView(check, what, scene, refused);
        compare(check, what, scene, refused, laterCalls());
    }

    /** All that can be seen. */
    static void dueView(Check check, String what, Supplier<MeshedSpans> scene, Consumer<MeshedSpans> call) {
        List<Call> looks = looks();
        for (int from = 0; from < looks.size(); from += LOOKS_OF_ONE_PAIR) {
            int to = Math.min(from + LOOKS_OF_ONE_PAIR, looks.size());
            compare(check, what, scene, call, looks.subList(from, to));
        }
    }

    private static void compare(Check check, String what, Supplier<MeshedSpans> scene, Consumer<MeshedSpans> call, List<Call> calls) {
        MeshedSpans spared = scene.get();
        MeshedSpans called = scene.get();
        call.accept(called);
        for (Call next : calls) {
            check.due(what + " changes nothing: " + next.text(), next.answer().applyAsLong(called), next.answer().applyAsLong(spared));
        }
    }

    private static List<Call> looks() {
        List<Call> all = new ArrayList<>();
        all.add(new Call("probes()", x -> x.probes()));
        all.add(new Call("freeSpans()", x -> x.freeSpans()));
        all.add(new Call("blocks()", x -> x.blocks()));
        for (int i = 0; i < 24; i++) {
            int span = i;
            all.add(new Call("mapped(" + span + ")", x -> x.mapped(span)));
        }
        for (int i = 0; i < 12; i++) {
            int physical = i;
            all.add(new Call("count(" + physical + ")", x -> x.count(physical)));
        }
        for (int i = 0; i < 4; i++) {
            int c = i;
            all.add(new Call("heaps(" + c + ")", x -> x.heaps(c)));
            addAttachment(all, c);
        }
        for (int i = 0; i < 384; i++) {
            int a = i;
            all.add(new Call("load(" + a + ")", x -> x.load(a)));
            all.add(new Call("size(" + a + ")", x -> x.size(a)));
            all.add(new Call("heapOf(" + a + ")", x -> x.heapOf(a)));
        }
        return all;
    }

    private static void addAttachment(List<Call> all, int c) {
        all.add(new Call("attached(" + c + ")", x -> x.attached(c)));
        for (int i = 0; i < 16 >> c; i++) {
            int k = i;
            all.add(new Call("vector(" + c + ", " + k + ")", x -> x.vector(c, k)));
        }
    }

    private static List<Call> laterCalls() {
        List<Call> all = new ArrayList<>();
        for (int i = 0; i < 384; i += 4) {
            int a = i;
            all.add(new Call("free(" + a + ") later", x -> x.free(a) ? 1 : 0));
        }
        for (int words : new int[] {1, 2, 4, 8, 8, 8, 16}) {
            all.add(new Call("malloc(" + words + ") later", x -> x.malloc(words)));
        }
        for (int i = 0; i < 4; i++) {
            int c = i;
            addAttachment(all, c);
            all.add(new Call("mesh(" + c + ", 16) later", x -> x.mesh(c, 16)));
            all.add(new Call("probes() later", x -> x.probes()));
        }
        all.add(new Call("freeSpans() later", x -> x.freeSpans()));
        return all;
    }
}
