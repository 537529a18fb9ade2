/**
 * The boundary cases of changes: at most 8 are kept, changes that find everything as they would make it, what is
 * refused is no change, and the two slots, empty at first and behind a load().
 */
public final class BoundsOfChangesTest {
    private static final int NONE = LinkDirectory.NONE;
    private static final long STATE = Check.THROWS_STATE;
    private static final long ELEMENT = Check.THROWS_ELEMENT;
    private static final Stage LIVELY = new Stage("a lively link", Scenes::lively);

    private BoundsOfChangesTest() {
    }

    public static void main(String[] args) {
        atMostEight();
        keptBehindUndo();
        eachChange();
        changesOfNothing();
        noChanges();
        refusedChanges();
        allIsUndone();
        messagesUnderWay();
        slotsAtFirst();
        slotsBehindLoad();
        slotsStay();
        statesHoldAll();
        restoreEndsUndo();
        withdrawn();
        otherPorts();
        addedWhileOff();
        browsedAlready();
        Check.end();
    }

    private static long answer(Stage.CallOn call, LinkDirectory x) {
        return Check.answerOf((Check.Call) () -> call.on(x));
    }

    private static void is(String what, long want, long got) {
        Check.same(what, want, got);
    }

    /** All that the state shows, but for the number of changes that can be undone. */
    private static String shown(Stage.Maker maker) {
        String view = View.of(maker);
        return view.substring(0, view.indexOf("\nbuffer")).replaceAll("(counts( -?[0-9]+){11}) [0-9]+", "$1");
    }

    // ---- at most eight

    /** Behind so many changes, 8 at most can be undone, the latest one first. */
    private static void atMostEight() {
        for (int number = 0; number <= 19; number++) {
            int changes = number;
            int kept = Math.min(8, number);
            Stage stage = new Stage(number + " changes", () -> ticks(changes));
            stage.due("count(11)", kept, x -> x.count(11));
            for (int times = 1; times <= kept; times++) {
                int undone = times;
                stage.due("undo() " + times, kept - times, x -> undo(x, undone));
                stage.due("count(11) behind it", kept - times, x -> {
                    undo(x, undone);
                    return x.count(11);
                });
                stage.due("the time behind it", timeOf(number - times), x -> {
                    undo(x, undone);
                    return x.count(3);
                });
            }
            Stage.CallOn undoOneMore = x -> undo(x, kept + 1);
            stage.due("undo() once more", STATE, undoOneMore);
            stage.behind("all undone", x -> kept == 0 ? 0 : undo(x, kept)).refused("undo()", STATE, LinkDirectory::undo);
        }
    }

    /** Changes of 1, 2, 3 and so on ticks. */
    private static LinkDirectory ticks(int changes) {
        LinkDirectory x = new LinkDirectory();
        for (int change = 1; change <= changes; change++) {
            x.pass(change);
        }
        return x;
    }

    private static int timeOf(int changes) {
        return changes * (changes + 1) / 2;
    }

    private static int undo(LinkDirectory x, int times) {
        int left = NONE;
        for (int time = 0; time < times; time++) {
            left = x.undo();
        }
        return left;
    }

    /** What is undone makes room for other changes, of which 8 at most are kept again. */
    private static void keptBehindUndo() {
        for (int undone = 0; undone <= 8; undone++) {
            for (int more = 0; more <= 10; more++) {
                LinkDirectory x = ticks(11);
                undo(x, undone);
                for (int change = 0; change < more; change++) {
                    x.pass(100);
                }
                int kept = Math.min(8, 8 - undone + more);
                is("count(11)", kept, x.count(11));
                for (int left = kept - 1; left >= 0; left--) {
                    is("undo()", left, x.undo());
                }
                is("no more", STATE, answer(LinkDirectory::undo, x));
                // The first three are not kept any more, and these go for the ones that are new.
                int lost = Math.max(0, more - undone);
                int time = lost <= 8 - undone ? timeOf(3 + lost) : timeOf(11 - undone) + 100 * (more - 8);
                is("the time", time, x.count(3));
            }
        }
    }

    // ---- what is a change

    /** Each of them can be undone, and counts as one. */
    private static Stage.CallOn[] changes() {
        return new Stage.CallOn[] {
            x -> x.pass(1),
            x -> x.pass(100),
            x -> {
                Check.put(x, "q");
                return x.add(0, 0, 5, 50);
            },
            x -> x.withdraw(0),
            x -> x.withdraw(2),
            x -> x.setPort(2, 9),
            x -> x.setPort(0, 1),
            x -> x.setOn(0, false, true),
            x -> x.setOn(2, false, false),
            x -> x.setSide(0, 1),
            x -> x.setSide(2, 1),
            x -> x.browse(1, 0, true),
            x -> x.browse(0, 0, false),
            x -> x.mark(998),
        };
    }

    private static void eachChange() {
        Stage.CallOn[] changes = changes();
        String before = View.of(Scenes::lively);
        for (int change = 0; change < changes.length; change++) {
            Stage.CallOn call = changes[change];
            Stage behind = LIVELY.behind("change " + change, call);
            behind.due("one change more", 6, x -> x.count(11));
            behind.due("undo()", 5, LinkDirectory::undo);
            Check.same("change " + change + " is undone", before, behind.viewBehind(LinkDirectory::undo));
            Check.same("change " + change + " does something", 0, shown(behind::make).equals(shown(LIVELY::make)) ? 1 : 0);
            String again = View.of(behind::make);
            Check.same("change " + change + " once more", again, behind.viewBehind(x -> {
                x.undo();
                return call.on(x);
            }));
        }
    }

    /** "Also where they find everything as they would make it." */
    private static void changesOfNothing() {
        Stage off = LIVELY.behind("c is off, on side 1", x -> x.setSide(2, 1) + x.setOn(2, false, false));
        Stage.CallOn[] ofLively = {
            x -> x.setOn(0, true, true), x -> x.setOn(1, true, false), x -> x.setSide(0, 0), x -> x.browse(0, 0, true),
            x -> x.browse(2, 1, true), x -> x.browse(1, 0, false), x -> x.setPort(0, 5),
        };
        Stage.CallOn[] ofOff = {
            x -> x.setOn(2, false, true), x -> x.setOn(2, false, false), x -> x.setSide(2, 1), x -> x.browse(2, 1, false),
            x -> x.setPort(2, 7),
        };
        // The service 0 has to be one that says nothing as its PORT is set.
        Stage probing = LIVELY.behind("a is on again", x -> x.setOn(0, false, false) + x.setOn(0, true, false)
            + x.browse(0, 0, true));
        for (Stage.CallOn call : ofLively) {
            nothing(probing, 8, call);
        }
        for (Stage.CallOn call : ofOff) {
            nothing(off, 7, call);
        }
        // At most 8 are kept of these, too.
        Stage many = new Stage("nine changes of nothing", () -> {
            LinkDirectory x = new LinkDirectory();
            for (int time = 0; time < 9; time++) {
                x.setSide(0, 0);
            }
            return x;
        });
        many.due("count(11)", 8, x -> x.count(11));
        many.due("undo()", 7, LinkDirectory::undo);
    }

    private static void nothing(Stage stage, int changes, Stage.CallOn call) {
        Stage behind = stage.behind("a change of nothing", call);
        Check.same("everything is as it was", shown(stage::make), shown(behind::make));
        stage.due("count(11) before", changes, x -> x.count(11));
        behind.due("count(11)", Math.min(8, changes + 1), x -> x.count(11));
        behind.due("undo()", Math.min(8, changes + 1) - 1, LinkDirectory::undo);
        Check.same("undone", shown(stage::make), shown(behind.behind("undo()", LinkDirectory::undo)::make));
    }

    /** What is no change can not be undone. */
    private static void noChanges() {
        Stage.CallOn[] others = {
            x -> x.append(1, 2, 3, 4, 5), x -> x.truncate(0), LinkDirectory::errorCode, LinkDirectory::errorPosition,
            x -> x.count(0), x -> x.host(0, 0), x -> x.service(0, 0), x -> x.baseByte(0, 0),
            x -> x.haveSameName(0, 1) ? 1 : 0, x -> x.browser(0, 0, 0), x -> x.isMarked(0) ? 1 : 0, x -> x.log(0, 0),
            x -> x.known(0, 0), x -> x.records(0, 0), LinkDirectory::stale, LinkDirectory::clashes,
            x -> (long) x.coverage(), x -> x.why(0, 0), x -> x.numberIn(0, 100), x -> x.messagesIn(100),
            LinkDirectory::write, x -> {
                Check.put(x, "a");
                return x.find(0);
            }, x -> {
                x.save(0);
                return 0;
            }, x -> {
                x.save(1);
                return 0;
            },
        };
        for (int call = 0; call < others.length; call++) {
            Stage behind = LIVELY.behind("call " + call, others[call]);
            behind.due("count(11)", 5, x -> x.count(11));
            behind.due("undo()", 4, LinkDirectory::undo);
            behind.due("the latest change", 12, x -> {
                x.undo();
                return x.count(3);
            });
        }
    }

    /** A change that throws is none. */
    private static void refusedChanges() {
        Stage.CallOn[] refused = {
            x -> x.pass(0), x -> x.pass(101), x -> x.add(0, 0, 5, 50), x -> x.add(9, 0, 5, 50), x -> x.withdraw(-1),
            x -> x.withdraw(3), x -> x.setPort(0, 0), x -> x.setPort(0, 1000), x -> x.setPort(3, 5),
            x -> x.setOn(3, true, true), x -> x.setSide(0, 2), x -> x.setSide(-1, 0), x -> x.browse(0, 2, true),
            x -> x.mark(-1), x -> x.mark(1000), x -> x.mark(0), x -> x.mark(9),
        };
        for (int call = 0; call < refused.length; call++) {
            Stage.CallOn each = refused[call];
            LIVELY.due("refused " + call, 1, x -> answer(each, x) >= Check.THROWS_INDEX ? 1 : 0);
            LIVELY.due("count(11) behind refused " + call, 5, x -> answer(each, x) == 0 ? NONE : x.count(11));
            Check.same("refused " + call + " changes nothing", View.of(LIVELY::make), LIVELY.viewBehind(each));
        }
        Stage withdrawn = LIVELY.behind("withdrawn, and c is off", x -> x.withdraw(0) + x.setOn(2, false, false));
        withdrawn.refused("withdraw()", STATE, x -> x.withdraw(0));
        withdrawn.refused("browse()", STATE, x -> x.browse(2, 0, true));
    }

    /** Time, messages, log, counts, caches, browsers and marks are undone with the rest. */
    private static void allIsUndone() {
        Stage early = new Stage("two that meet", () -> Scenes.joined(5, 6));
        Stage late = early.behind("much", x -> {
            x.mark(x.count(4) + 1);
            x.setPort(1, 7);
            x.browse(0, 0, true);
            x.pass(100);
            x.withdraw(1);
            x.setOn(0, false, true);
            x.pass(30);
            return x.mark(900);
        });
        for (int what : new int[] {3, 4, 5, 8, 9, 10}) {
            late.due("something happened: " + what, 1, x -> {
                int after = x.count(what);
                undo(x, 8);
                return after > x.count(what) ? 1 : 0;
            });
        }
        Check.same("all is undone", shown(early::make), shown(late.behind("undone", x -> undo(x, 8))::make));
        late.due("no more", STATE, x -> undo(x, 9));
    }

    /** Messages under way, and the known answers of a query among them, are undone and restored. */
    private static void messagesUnderWay() {
        // A query of 14 that knows an answer, and what changes send behind it.
        Stage query = Stage.of("hosts a b;types t;service a t x 5 100;service a t y 6 100;browse b t;", 15)
            .behind("another PORT", x -> x.setPort(0, 6));
        query.due("known answers", 2, x -> x.message(0, 7));
        query.due("answers: x has another PORT", 1, x -> x.messagesIn(1));
        query.due("answers", 1, x -> x.pass(1));
        Stage saved = query.behind("saved", x -> {
            x.save(0);
            return 0;
        });
        for (int ticks : new int[] {1, 2, 3, 50}) {
            Check.same("undone", View.of(query::make), query.viewBehind(x -> x.pass(ticks) + x.undo()));
            Check.same("restored", shown(query::make), shown(saved.behind("restored", x ->
                x.pass(ticks) + x.pass(20) + restore(x, 0))::make));
        }
        Stage storm = new Stage("a storm", () -> Scenes.storm(3));
        Check.same("undone", shown(storm::make), shown(storm.behind("undone", x -> x.pass(3) + x.undo())::make));
        storm.due("undone, as many come again", 0, x -> {
            int sent = x.pass(1);
            x.undo();
            return x.pass(1) - sent;
        });
    }

    // ---- slots

    private static long restore(LinkDirectory x, int slot) {
        return Check.answerOf((Check.Deed) () -> x.restore(slot));
    }

    private static void slotsAtFirst() {
        for (int slot = 0; slot <= 1; slot++) {
            int at = slot;
            Stage made = new Stage("a new object", LinkDirectory::new);
            made.due("empty at first", ELEMENT, x -> restore(x, at));
            Stage saved = made.behind("saved", x -> {
                x.save(at);
                return x.pass(7);
            });
            saved.due("saved", 0, x -> restore(x, at));
            saved.due("the time", 0, x -> restore(x, at) + x.count(3));
            saved.due("the other one is empty still", ELEMENT, x -> restore(x, 1 - at));
            Check.same("the state", shown(made::make), shown(saved.behind("restored", x -> restore(x, at))::make));
        }
    }

    /** "Empty at first and after a load() that does not throw." */
    private static void slotsBehindLoad() {
        Stage both = LIVELY.behind("both saved", x -> {
            x.save(0);
            x.pass(1);
            x.save(1);
            return x.pass(1);
        });
        for (int slot = 0; slot <= 1; slot++) {
            int at = slot;
            both.behind("load()", x -> Check.load(x, "hosts a;types t;")).due("empty", ELEMENT, x -> restore(x, at));
            Stage failed = both.behind("a load() that throws", x -> Check.load(x, "hosts a;types t"));
            failed.due("not empty", 0, x -> restore(x, at));
            failed.due("the time", 52 + at, x -> restore(x, at) + x.count(3));
            failed.due("undo() stays", 7, x -> x.count(11));
        }
        Stage loaded = both.behind("load()", x -> Check.load(x, "hosts a;types t;"));
        loaded.due("no change can be undone", STATE, LinkDirectory::undo);
        loaded.due("count(11)", 0, x -> x.count(11));
    }

    /** A slot stays saved behind restore(), undo(), save() in the other slot, and whatever changes. */
    private static void slotsStay() {
        Stage saved = LIVELY.behind("saved", x -> {
            x.save(0);
            return 0;
        });
        String state = shown(LIVELY::make);
        Stage.CallOn[] deeds = {
            x -> 0, x -> restore(x, 0), x -> undo(x, 5), x -> x.pass(100), x -> x.setOn(1, false, true),
            x -> {
                x.pass(9);
                x.save(1);
                return restore(x, 1);
            },
            x -> restore(x, 1), x -> restore(x, 2), x -> restore(x, 0) + x.pass(9) + restore(x, 0) + x.pass(10),
            x -> x.messagesIn(100), x -> x.numberIf(0, 1, 2, 5), x -> Check.load(x, "hosts"),
        };
        for (int deed = 0; deed < deeds.length; deed++) {
            Stage behind = saved.behind("deed " + deed, deeds[deed]).behind("restored", x -> restore(x, 0));
            String view = shown(behind::make);
            // The error of a load() is no part of the state.
            Check.same("slot 0 behind deed " + deed, state, view.replaceFirst("error 1 5", "error 0 -1"));
        }
        // In place of what was saved there.
        Stage again = saved.behind("saved again", x -> {
            x.pass(3);
            x.save(0);
            x.pass(4);
            return restore(x, 0);
        });
        again.due("the time", 55, x -> x.count(3));
    }

    /** A state is everything but the buffer, the error, the output, the slots and the changes. */
    private static void statesHoldAll() {
        Stage later = LIVELY.behind("saved, and much more", x -> {
            x.save(1);
            x.setPort(1, 900);
            x.setSide(2, 1);
            x.browse(1, 1, true);
            x.mark(999);
            x.pass(77);
            x.setOn(0, false, false);
            x.withdraw(2);
            return 0;
        });
        Stage restored = later.behind("restored", x -> restore(x, 1));
        Check.same("the whole state", shown(LIVELY::make), shown(restored::make));
        // But these are none of it.
        Stage other = LIVELY.behind("saved, and then", x -> {
            x.save(1);
            Check.load(x, "hosts a a");
            x.pass(1);
            x.write();
            Check.put(x, "b");
            return restore(x, 1);
        });
        other.due("the error stays", 3, LinkDirectory::errorCode);
        other.due("its position stays", 8, LinkDirectory::errorPosition);
        other.due("the output stays", 'x', x -> x.outputByte(0));
        other.due("the buffer stays", 1, x -> x.find(0));
        other.due("the time does not", 52, x -> x.count(3));
        Stage undone = LIVELY.behind("a change, and then", x -> {
            x.pass(1);
            Check.load(x, "hosts a a");
            x.write();
            Check.put(x, "b");
            return x.undo();
        });
        undone.due("the error stays", 3, LinkDirectory::errorCode);
        undone.due("its position stays", 8, LinkDirectory::errorPosition);
        undone.due("the output stays", 'x', x -> x.outputByte(0));
        undone.due("the buffer stays", 1, x -> x.find(0));
        undone.due("the time does not", 52, x -> x.count(3));
    }

    /** "No change can be undone then" behind restore(), but behind one that throws they can. */
    private static void restoreEndsUndo() {
        Stage saved = LIVELY.behind("saved", x -> {
            x.save(0);
            return 0;
        });
        saved.due("saving is no change", 5, x -> x.count(11));
        saved.due("restored", 0, x -> restore(x, 0) + x.count(11));
        saved.due("restored", STATE, x -> {
            x.restore(0);
            return x.undo();
        });
        saved.due("one change behind it", 0, x -> {
            x.restore(0);
            x.pass(5);
            return x.undo();
        });
        saved.due("the time", 52, x -> {
            x.restore(0);
            x.pass(5);
            x.undo();
            return x.count(3);
        });
        saved.due("an empty slot", 5, x -> restore(x, 1) == ELEMENT ? x.count(11) : NONE);
        saved.due("no such slot", 5, x -> restore(x, 2) == Check.THROWS_INDEX ? x.count(11) : NONE);
    }

    // ---- changes of services, by their states

    /** A service of a that is probing up to 6, announcing up to 10, and established from 11 on. */
    private static LinkDirectory one(int ticks, boolean isOn) {
        LinkDirectory x = Stage.passed(Check.loaded("hosts a b;types t;service a t x 5 100;"), ticks);
        if (!isOn) {
            x.setOn(0, false, false);
        }
        return x;
    }

    private static int stateAt(int ticks) {
        return ticks <= 6 ? 0 : ticks <= 10 ? 1 : 2;
    }

    private static void serviceIs(String what, LinkDirectory x, int state, int alarm) {
        is(what + ": state", state, x.service(0, 5));
        is(what + ": ALARM", alarm, x.service(0, 7));
    }

    /** withdraw(): "if it is announcing or established and its host is on, a goodbye is sent". */
    private static void withdrawn() {
        for (int ticks = 0; ticks <= 12; ticks++) {
            for (boolean isOn : new boolean[] {true, false}) {
                LinkDirectory x = one(ticks, isOn);
                String what = "withdrawn at " + ticks;
                int sent = x.count(4);
                is(what, stateAt(ticks), x.withdraw(0));
                serviceIs(what, x, 3, NONE);
                int goodbyes = isOn && stateAt(ticks) > 0 ? 1 : 0;
                is(what + ": goodbyes", sent + goodbyes, x.count(4));
                if (goodbyes > 0) {
                    is(what + ": its kind", 1, x.message(x.count(6) - 1, 0));
                    is(what + ": its PORT", 5, x.message(x.count(6) - 1, 5));
                    is(what + ": its TTL", 0, x.message(x.count(6) - 1, 6));
                }
                x.setOn(0, true, false);
                serviceIs(what + ", then on", x, 3, NONE);
                x.pass(20);
                is("nothing more is sent", sent + goodbyes, x.count(4));
            }
        }
    }

    /** setPort(): then "a response is sent, it is announcing, and ALARM becomes the present time plus 4". */
    private static void otherPorts() {
        int[] alarms = {0, 2, 2, 4, 4, 6, 6};
        for (int ticks = 0; ticks <= 13; ticks++) {
            for (int port : new int[] {1, 5, 999}) {
                LinkDirectory x = one(ticks, true);
                String what = "the PORT " + port + " at " + ticks;
                int sent = x.count(4);
                is(what, 5, x.setPort(0, port));
                is(what + ": PORT", port, x.service(0, 3));
                if (stateAt(ticks) == 0) {
                    is(what + ": no response", sent, x.count(4));
                    serviceIs(what, x, 0, alarms[ticks]);
                } else {
                    is(what + ": a response", sent + 1, x.count(4));
                    is(what + ": its PORT", port, x.message(x.count(6) - 1, 5));
                    is(what + ": its TTL", 100, x.message(x.count(6) - 1, 6));
                    serviceIs(what, x, 1, ticks + 4);
                    x.pass(4);
                    serviceIs(what + ", 4 ticks later", x, 1, ticks + 4);
                    x.pass(1);
                    serviceIs(what + ", 5 ticks later", x, 2, NONE);
                }
                LinkDirectory y = one(ticks, false);
                y.setPort(0, port);
                is(what + ", off: no response", sent, y.count(4));
                serviceIs(what + ", off", y, stateAt(ticks), NONE);
                LinkDirectory z = one(ticks, true);
                z.withdraw(0);
                sent = z.count(4);
                z.setPort(0, port);
                is(what + ", withdrawn: no response", sent, z.count(4));
                is(what + ", withdrawn: PORT", port, z.service(0, 3));
                serviceIs(what + ", withdrawn", z, 3, NONE);
            }
        }
    }

    /** add(): "it has no ALARM as long as its host is off". */
    private static void addedWhileOff() {
        for (int ticks : new int[] {0, 1, 20}) {
            LinkDirectory x = Stage.passed(Check.loaded("hosts a b;types t;"), ticks);
            x.setOn(0, false, false);
            Check.put(x, "x");
            x.add(0, 0, 5, 50);
            serviceIs("off", x, 0, NONE);
            x.pass(7);
            serviceIs("off for 7 ticks", x, 0, NONE);
            is("no probe", 0, x.count(4));
            x.setOn(0, true, false);
            serviceIs("on", x, 0, ticks + 7);
            x.pass(11);
            serviceIs("on for 11 ticks", x, 2, NONE);
        }
    }

    /** browse(): "nothing happens if it does so already"; what has ended begins anew. */
    private static void browsedAlready() {
        Stage browsing = Stage.of("hosts a;types t u;browse a t;", 10);
        int[] want = {14, 16, 3, 0};
        int[] anew = {10, 2, 0, 0};
        for (int what = 0; what < 4; what++) {
            int at = what;
            browsing.due("browser()", want[what], x -> x.browser(0, 0, at));
            browsing.due("browsed already", want[what], x -> {
                x.browse(0, 0, true);
                return x.browser(0, 0, at);
            });
            browsing.due("ended", NONE, x -> {
                x.browse(0, 0, false);
                return x.browser(0, 0, at);
            });
            browsing.due("ended, and begun again", anew[what], x -> {
                x.browse(0, 0, false);
                x.browse(0, 0, true);
                return x.browser(0, 0, at);
            });
        }
        // At 27 the record is refreshed: the fifth query, and the first one of this kind.
        Stage refreshed = Stage.of("hosts a b;types t;service a t x 5 20;browse b t;", 28);
        refreshed.due("queries", 5, x -> x.browser(1, 0, 2));
        refreshed.due("refreshes", 1, x -> x.browser(1, 0, 3));
        refreshed.due("queries of a new browser", 0, x -> x.browse(1, 0, false) * x.browse(1, 0, true) + x.browser(1, 0, 2));
        refreshed.due("refreshes of it", 0, x -> x.browse(1, 0, false) * x.browse(1, 0, true) + x.browser(1, 0, 3));
        browsing.due("one type still", 1, x -> x.browse(0, 0, true));
        browsing.due("two types", 2, x -> x.browse(0, 1, true));
        browsing.due("no type", 0, x -> x.browse(0, 0, false));
        browsing.due("the other type was not browsed", 1, x -> x.browse(0, 1, false));
    }
}
